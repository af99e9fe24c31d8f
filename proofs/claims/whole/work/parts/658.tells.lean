/-! SUSPECT, TELLS -/
section zK4s
variable {N : zN} {x m w s B st top n k i f c p j b l t e : Nat} {μ0 μ μ' μ1 ν0 ν ν' ν1 : zM} {S S' X : zS} {so so' : Nat → Bool} {ro ro' : Nat → Nat → Int32}
/-- the k-th suspect, in the reference's rows -/
theorem R_kth (gl : gF ν 1202 m = nI (nL N)) (l14 : nL N ≤ 14) (h33 : ∀ l, l < nL N + 1 → gA ν (m + 33) l = bI (so l)) (hk : k < 2 ^ 31) : ∃ r, zloop (fun s => f12_suspect_L1 m (nI k) ν s.1 s.2) 1000000 (0, 0) = some r ∧ ((∃ l, l < nL N + 1 ∧ so l = true ∧ cnt so l = k ∧ r = .inl (nI l, ν)) ∨ ((¬ ∃ l, l < nL N + 1 ∧ so l = true ∧ cnt so l = k) ∧ ∃ y, r = .inr y)) := by
  have key := lpX (body := fun s => f12_suspect_L1 m (nI k) ν s.1 s.2) (fun i (_ : Unit) => (nI (cnt so i), nI i)) (fun i _ => ∀ l, l < i → so l = true → cnt so l ≠ k) (nL N + 1) (fun r => ∃ l, l < nL N + 1 ∧ so l = true ∧ cnt so l = k ∧ r = (nI l, ν)) (fun _ => ∀ l, l < nL N + 1 → so l = true → cnt so l ≠ k) (by
    intro i _ hi hq
    have ci := cnt_le (p := so) i
    have st0 : f12_suspect_L1 m (nI k) ν (nI (cnt so i)) (nI i) = if so i = true then (if cnt so i = k then some (.inr (.inl (nI i, ν))) else some (.inl (nI (cnt so i + 1), nI (i + 1)))) else some (.inl (nI (cnt so i), nI (i + 1))) := by
      unfold f12_suspect_L1
      rw [gl, clt_nI (by omega) (by omega), decide_eq_false (by omega), if_neg (by decide), rA_nI (by omega) (by omega), obs, h33 i hi, ceq_nI (by omega) hk]
      cases so i with
      | false => rw [show ceq (bI false) 0 = true from rfl, if_pos rfl, if_neg (by decide), obs, nI_1]
      | true =>
        rw [show ceq (bI true) 0 = false from rfl, if_neg (by decide), if_pos rfl]
        by_cases c : cnt so i = k
        · rw [decide_eq_true c, if_pos rfl, if_pos c]
        · rw [decide_eq_false c, if_neg (by decide), if_neg c, obs, obs, nI_1, nI_1]
    cases cs : so i with
    | false =>
      rw [cs, if_neg (by decide)] at st0
      refine Or.inl ⟨(), ?_, fun l hl hs => ?_⟩
      · show f12_suspect_L1 m (nI k) ν (nI (cnt so i)) (nI i) = some (.inl (nI (cnt so (i + 1)), nI (i + 1)))
        rw [st0, cnt_s, cs, if_neg (by decide)]
      · by_cases c : l = i
        · rw [c, cs] at hs; exact absurd hs (by decide)
        · exact hq l (by omega) hs
    | true =>
      rw [cs, if_pos rfl] at st0
      by_cases c : cnt so i = k
      · rw [if_pos c] at st0
        exact Or.inr ⟨_, st0, i, hi, cs, c, rfl⟩
      · rw [if_neg c] at st0
        refine Or.inl ⟨(), ?_, fun l hl hs => ?_⟩
        · show f12_suspect_L1 m (nI k) ν (nI (cnt so i)) (nI i) = some (.inl (nI (cnt so (i + 1)), nI (i + 1)))
          rw [st0, cnt_s, cs, if_pos rfl]
        · by_cases c2 : l = i
          · rw [c2]; exact c
          · exact hq l (by omega) hs) (by
    intro _ hq
    refine ⟨(nI (cnt so (nL N + 1)), nI (nL N + 1)), ?_, hq⟩
    show f12_suspect_L1 m (nI k) ν (nI (cnt so (nL N + 1))) (nI (nL N + 1)) = _
    unfold f12_suspect_L1
    rw [gl, clt_nI (by omega) (by omega), decide_eq_true (by omega), if_pos rfl]) (nL N + 1) 0 1000000 () (by omega) (by omega) (by omega) (fun l hl => absurd hl (by omega))
  rcases key with ⟨a, e1, l, h1, h2, h3, rfl⟩ | ⟨r, e1, h1⟩
  · exact ⟨_, e1, Or.inl ⟨l, h1, h2, h3, rfl⟩⟩
  · exact ⟨_, e1, Or.inr ⟨fun ⟨l, a1, a2, a3⟩ => h1 l a1 a2 a3, r, rfl⟩⟩
theorem cnt_ex : ∀ n, k < cnt so n → ∃ l, l < n ∧ so l = true ∧ cnt so l = k
  | 0, h => absurd h (by show ¬ k < 0; omega)
  | n + 1, h => by
    rw [cnt_s] at h
    by_cases c : k < cnt so n
    · obtain ⟨l, h1, h2, h3⟩ := cnt_ex n c
      exact ⟨l, by omega, h2, h3⟩
    · by_cases c2 : so n = true
      · rw [if_pos c2] at h
        exact ⟨n, by omega, c2, by omega⟩
      · rw [if_neg c2] at h; omega
theorem cnt_lt (hl : l < n) (hs : so l = true) : cnt so l < cnt so n := by
  have h1 := cnt_mono (p := so) (a := l + 1) (n - (l + 1))
  rw [show l + 1 + (n - (l + 1)) = n by omega, cnt_s, if_pos hs] at h1
  omega
theorem q_suspect (h : JR x m top μ ν) (a : Int32) : ∃ r μ' ν', f11_suspect x a μ = some (r, μ') ∧ f12_suspect m a ν = some (r, ν') ∧ JR x m top μ' ν' := by
  have h0 := h
  obtain ⟨N, S, st, w, h⟩ := h
  have l14 := h.1.nw.l14
  obtain ⟨so, ro, μ', ν', e1, e2, fb, fz, ft, su⟩ := sus2 h
  have hr : JR x m top μ' ν' := ⟨_, _, _, _, h.look2 fb fz ft⟩
  have hr2 : JR x m top μ ν' := ⟨_, _, _, _, h.look FrA.rf h.2.2.2.1 ft⟩
  have cb := cnt_le (p := so) (nL N + 1)
  have gl : gF ν' 1202 m = nI (nL N) := by rw [ft.1 1202 m (by omega) (by omega)]; exact h.1.m0.2.2.2.1.2.1
  unfold f11_suspect f12_suspect
  simp only [h.1.wr, obs]
  rw [← h.2.1.1, h.1.cs.w_l, e1, e2]
  simp only [obs, ozb2]
  cases et : gB μ 1012 w with
  | false => exact ⟨-1, μ, ν, rfl, rfl, h0⟩
  | true =>
    cases c1 : clt a (-1) with
    | true => exact ⟨-1, μ, ν, rfl, rfl, h0⟩
    | false =>
      simp only [Bool.not_true, Bool.false_eq_true, ↓reduceIte, Bool.or_false]
      cases c2 : ceq a (-1) with
      | true =>
        have ea := ceq_of c2
        subst ea
        rw [show clt (nI (nL N)) (-1) = false from by
          unfold clt
          rw [decide_eq_false_iff_not, Int32.lt_iff_toInt_lt, nI_toInt (by omega)]
          have h3 : (-1 : Int32).toInt = -1 := by decide
          omega]
        simp only [obs, Bool.false_eq_true, ↓reduceIte]
        rw [su.1]
        exact ⟨_, _, _, rfl, rfl, hr⟩
      | false =>
        have a0 : clt a 0 = false := by
          unfold clt at c1 ⊢
          unfold ceq at c2
          rw [decide_eq_false_iff_not] at c1 c2 ⊢
          rw [Int32.lt_iff_toInt_lt] at c1 ⊢
          have h3 : (-1 : Int32).toInt = -1 := by decide
          have h4 : (0 : Int32).toInt = 0 := by decide
          rw [h3] at c1
          rw [h4]
          intro h5
          exact c2 (Int32.toInt_inj.mp (by rw [h3]; omega))
        obtain ⟨k, hk, rfl⟩ := nI_of (of_decide_eq_false a0)
        obtain ⟨r, g1, g2⟩ := R_kth (so := so) gl l14 (fun l hl => (su.2.2 l hl).1) hk
        rw [clt_nI (by omega) hk, su.1, clt_nI hk (by omega), g1]
        simp only [if_neg Bool.false_ne_true, obs]
        by_cases ck : nL N < k
        · rw [decide_eq_true ck]
          refine ⟨-1, μ, ν', rfl, ?_, hr2⟩
          rcases g2 with ⟨l, b1, b2, b3, b4⟩ | ⟨_, y, rfl⟩
          · have := cnt_le (p := so) l
            omega
          · rfl
        · rw [decide_eq_false ck, if_neg (by decide)]
          by_cases ck2 : k < cnt so (nL N + 1)
          · obtain ⟨l, b1, b2, b3⟩ := cnt_ex (nL N + 1) ck2
            rw [decide_eq_true ck2, if_pos rfl, show x + 19 = x + 19 from rfl, rA_nI (by omega) (by omega), obs, obs]
            have v := (su.2.1 l b1 b2).1
            rw [b3] at v
            rw [v]
            refine ⟨nI l, μ', ν', rfl, ?_, hr⟩
            rcases g2 with ⟨l', d1, d2, d3, rfl⟩ | ⟨d1, _⟩
            · have : l' = l := cnt_inj d2 b2 (d3.trans b3.symm)
              subst this
              rfl
            · exact absurd ⟨l, b1, b2, b3⟩ d1
          · rw [decide_eq_false ck2, if_neg (by decide)]
            refine ⟨-1, μ', ν', rfl, ?_, hr⟩
            rcases g2 with ⟨l', d1, d2, d3, rfl⟩ | ⟨_, y, rfl⟩
            · exact absurd (by rw [← d3]; exact cnt_lt d1 d2) ck2
            · rfl
/-- how many suspects leave a port in one role, at most -/
def al (so : Nat → Bool) (ro : Nat → Nat → Int32) (e r n : Nat) : Nat := cnt (fun l => so l && ceq (ro l e) (nI r)) n
def mb (so : Nat → Bool) (ro : Nat → Nat → Int32) (e n : Nat) : Nat → Nat
  | 0 => 0
  | r + 1 => max (mb so ro e n r) (al so ro e r n)
theorem al_le : al so ro e k n ≤ n := cnt_le n
theorem mb_le : ∀ r, mb so ro e n r ≤ n
  | 0 => Nat.zero_le _
  | r + 1 => Nat.max_le.mpr ⟨mb_le r, al_le⟩
theorem al_k (h : ∀ l, l < n → so l = true → gA μ (x + 20) (cnt so l * 28 + e) = ro l e) : ∀ i, i ≤ n → cnt (fun k => ceq (gA μ (x + 20) (k * 28 + e)) (nI t)) (cnt so i) = al so ro e t i
  | 0, _ => rfl
  | i + 1, hi => by
    have ih := al_k h i (by omega)
    show _ = cnt _ (i + 1)
    rw [cnt_s, cnt_s]
    show cnt _ (if so i = true then cnt so i + 1 else cnt so i) = if (so i && ceq (ro i e) (nI t)) = true then al so ro e t i + 1 else al so ro e t i
    cases cs : so i with
    | false => rw [if_neg (by decide), Bool.false_and, if_neg (by decide), ih]
    | true => rw [if_pos rfl, cnt_s, ih, h i (by omega) cs, Bool.true_and]
theorem C_left (su : SU N x m (nL N + 1) so ro μ ν) (l14 : nL N ≤ 14) (he : e < 2 * nL N) : f7_countLeft (x + 17) (nI e) μ = some (nI (mb so ro e (nL N + 1) 5)) := by
  have cb := cnt_le (p := so) (nL N + 1)
  have hk := fun t => al_k (n := nL N + 1) (e := e) (t := t) (fun l hl hs => (su.2.1 l hl hs).2 e he)
  have L2 : ∀ r, zloop (fun s => f7_countLeft_L2 (x + 17) (nI e) μ (nI r) s.1 s.2) 1000000 (0, 0) = some (nI (al so ro e r (nL N + 1)), nI (cnt so (nL N + 1))) := by
    intro r
    obtain ⟨y, e1, h1⟩ := zloop_up (body := fun s => f7_countLeft_L2 (x + 17) (nI e) μ (nI r) s.1 s.2) (fun i (_ : Unit) => (nI (cnt (fun k => ceq (gA μ (x + 20) (k * 28 + e)) (nI r)) i), nI i)) (fun _ _ => True) (cnt so (nL N + 1)) (fun y => y = (nI (cnt (fun k => ceq (gA μ (x + 20) (k * 28 + e)) (nI r)) (cnt so (nL N + 1))), nI (cnt so (nL N + 1)))) (by
      intro i _ hi _
      refine ⟨(), ?_, trivial⟩
      show f7_countLeft_L2 (x + 17) (nI e) μ (nI r) (nI (cnt (fun k => ceq (gA μ (x + 20) (k * 28 + e)) (nI r)) i)) (nI i) = _
      unfold f7_countLeft_L2
      rw [su.1, clt_nI (by omega) (by omega), decide_eq_true hi, if_pos rfl, show nI i * 28 + nI e = nI (i * 28 + e) by rw [show (28 : Int32) = nI 28 from rfl, pk_mul, nI_add], show x + 17 + 3 = x + 20 by omega, rA_nI (by omega) (by omega), obs, cnt_s]
      cases ceq (gA μ (x + 20) (i * 28 + e)) (nI r) with
      | true => rw [if_pos rfl, if_pos rfl, obs, obs, obs, nI_1, nI_1]
      | false => rw [if_neg (by decide), if_neg (by decide), obs, obs, obs, nI_1, show ∀ a, nI a + 0 = nI (a + 0) from fun a => nI_add a 0]; rfl) (by
      intro _ _
      refine ⟨_, ?_, rfl⟩
      show f7_countLeft_L2 (x + 17) (nI e) μ (nI r) _ (nI (cnt so (nL N + 1))) = _
      unfold f7_countLeft_L2
      rw [su.1, clt_nI (by omega) (by omega), decide_eq_false (by omega), if_neg (by decide)]) (cnt so (nL N + 1)) 0 1000000 () (by omega) (by omega) (by omega) trivial
    rw [show zloop (fun s => f7_countLeft_L2 (x + 17) (nI e) μ (nI r) s.1 s.2) 1000000 (0, 0) = some y from e1, h1, hk r (nL N + 1) (Nat.le_refl _)]
  obtain ⟨y, e1, h1⟩ := zloop_up (body := fun s => f7_countLeft_L1 (x + 17) (nI e) μ s.1 s.2) (fun i (_ : Unit) => (nI (mb so ro e (nL N + 1) i), nI i)) (fun _ _ => True) 5 (fun y => y = (nI (mb so ro e (nL N + 1) 5), nI 5)) (by
    intro i _ hi _
    refine ⟨(), ?_, trivial⟩
    have m1 := mb_le (so := so) (ro := ro) (e := e) (n := nL N + 1) i
    have m2 := al_le (so := so) (ro := ro) (e := e) (k := i) (n := nL N + 1)
    show f7_countLeft_L1 (x + 17) (nI e) μ (nI (mb so ro e (nL N + 1) i)) (nI i) = some (.inl (nI (max (mb so ro e (nL N + 1) i) (al so ro e i (nL N + 1))), nI (i + 1)))
    unfold f7_countLeft_L1
    rw [show clt (nI i) 5 = true from by rw [show (5 : Int32) = nI 5 from rfl, clt_nI (by omega) (by omega), decide_eq_true hi], if_pos rfl, L2, ozb2, obs, obs, nI_1]
    unfold iMax
    by_cases c : mb so ro e (nL N + 1) i < al so ro e i (nL N + 1)
    · rw [if_pos ((nI_ltI (by omega) (by omega)).mpr c), Nat.max_eq_right (by omega)]
    · rw [if_neg (fun z => c ((nI_ltI (by omega) (by omega)).mp z)), Nat.max_eq_left (by omega)]) (by
    intro _ _
    refine ⟨_, ?_, rfl⟩
    show f7_countLeft_L1 (x + 17) (nI e) μ _ (nI 5) = _
    unfold f7_countLeft_L1
    rw [show clt (nI 5) 5 = false from by decide, if_neg (by decide)]) 5 0 1000000 () (by omega) (by omega) (by omega) trivial
  unfold f7_countLeft
  rw [show zloop (fun s => f7_countLeft_L1 (x + 17) (nI e) μ s.1 s.2) 1000000 (0, 0) = some y from e1, h1, ozb2]
theorem R_most (su : SU N x m (nL N + 1) so ro μ ν) (gl : gF ν 1202 m = nI (nL N)) (nw : NW N) (he : e < 2 * nL N) : f12_mostBy m (nI (pl N e)) ν = some (nI (mb so ro e (nL N + 1) 5)) := by
  have l14 := nw.l14
  have p48 := nw.pl_48 he
  have L2 : ∀ r, zloop (fun s => f12_mostBy_L2 m (nI (pl N e)) ν (nI r) s.1 s.2) 1000000 (0, 0) = some (nI (al so ro e r (nL N + 1)), nI (nL N + 1)) := by
    intro r
    obtain ⟨y, e1, h1⟩ := zloop_up (body := fun s => f12_mostBy_L2 m (nI (pl N e)) ν (nI r) s.1 s.2) (fun i (_ : Unit) => (nI (al so ro e r i), nI i)) (fun _ _ => True) (nL N + 1) (fun y => y = (nI (al so ro e r (nL N + 1)), nI (nL N + 1))) (by
      intro i _ hi _
      refine ⟨(), ?_, trivial⟩
      show f12_mostBy_L2 m (nI (pl N e)) ν (nI r) (nI (al so ro e r i)) (nI i) = some (.inl (nI (if (so i && ceq (ro i e) (nI r)) = true then al so ro e r i + 1 else al so ro e r i), nI (i + 1)))
      obtain ⟨s1, s2⟩ := su.2.2 i hi
      unfold f12_mostBy_L2
      rw [gl, clt_nI (by omega) (by omega), decide_eq_false (by omega), if_neg (by decide), rA_nI (by omega) (by omega), obs, obs, s1, mulQ48, nI_add, rA_nI (by omega) (by omega), obs]
      cases cs : so i with
      | false => rw [show ceq (bI false) 1 = false from rfl, if_neg (by decide), obs, if_neg (by decide), obs, obs, obs, nI_1, Bool.false_and, if_neg (by decide), show ∀ a, nI a + 0 = nI (a + 0) from fun a => nI_add a 0]; rfl
      | true =>
        rw [show ceq (bI true) 1 = true from rfl, if_pos rfl, s2 cs e he, obs, Bool.true_and]
        cases ceq (ro i e) (nI r) with
        | true => rw [if_pos rfl, if_pos rfl, obs, obs, obs, nI_1, nI_1]
        | false => rw [if_neg (by decide), if_neg (by decide), obs, obs, obs, nI_1, show ∀ a, nI a + 0 = nI (a + 0) from fun a => nI_add a 0]; rfl) (by
      intro _ _
      refine ⟨_, ?_, rfl⟩
      show f12_mostBy_L2 m (nI (pl N e)) ν (nI r) _ (nI (nL N + 1)) = _
      unfold f12_mostBy_L2
      rw [gl, clt_nI (by omega) (by omega), decide_eq_true (by omega), if_pos rfl]) (nL N + 1) 0 1000000 () (by omega) (by omega) (by omega) trivial
    rw [show zloop (fun s => f12_mostBy_L2 m (nI (pl N e)) ν (nI r) s.1 s.2) 1000000 (0, 0) = some y from e1, h1]
  obtain ⟨y, e1, h1⟩ := zloop_up (body := fun s => f12_mostBy_L1 m (nI (pl N e)) ν s.1 s.2) (fun i (_ : Unit) => (nI (mb so ro e (nL N + 1) i), nI i)) (fun _ _ => True) 5 (fun y => y = (nI (mb so ro e (nL N + 1) 5), nI 5)) (by
    intro i _ hi _
    refine ⟨(), ?_, trivial⟩
    have m1 := mb_le (so := so) (ro := ro) (e := e) (n := nL N + 1) i
    have m2 := al_le (so := so) (ro := ro) (e := e) (k := i) (n := nL N + 1)
    show f12_mostBy_L1 m (nI (pl N e)) ν (nI (mb so ro e (nL N + 1) i)) (nI i) = some (.inl (nI (max (mb so ro e (nL N + 1) i) (al so ro e i (nL N + 1))), nI (i + 1)))
    unfold f12_mostBy_L1 f12_greatest
    rw [show clt 4 (nI i) = false from by rw [show (4 : Int32) = nI 4 from rfl, clt_nI (by omega) (by omega), decide_eq_false (by omega)], if_neg (by decide), L2, ozb2, clt_nI (by omega) (by omega)]
    by_cases c : al so ro e i (nL N + 1) < mb so ro e (nL N + 1) i
    · rw [decide_eq_true c, Nat.max_eq_left (by omega)]
      simp only [↓reduceIte, obs]
      rw [nI_1]
    · rw [decide_eq_false c, Nat.max_eq_right (by omega)]
      simp only [Bool.false_eq_true, ↓reduceIte, obs]
      rw [nI_1]) (by
    intro _ _
    refine ⟨_, ?_, rfl⟩
    show f12_mostBy_L1 m (nI (pl N e)) ν _ (nI 5) = _
    unfold f12_mostBy_L1
    rw [show clt 4 (nI 5) = true from by decide, if_pos rfl]) 5 0 1000000 () (by omega) (by omega) (by omega) trivial
  unfold f12_mostBy
  rw [show zloop (fun s => f12_mostBy_L1 m (nI (pl N e)) ν s.1 s.2) 1000000 (0, 0) = some y from e1, h1, ozb2]
end zK4s
