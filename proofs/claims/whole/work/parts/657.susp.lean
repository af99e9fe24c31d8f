/-! SUSPECTS, both -/
section zK3s
variable {N : zN} {x m w s B st top n k i f c p j b l t e : Nat} {μ0 μ μ' μ1 ν0 ν ν' ν1 : zM} {S S' X : zS} {so so' : Nat → Bool} {ro ro' : Nat → Nat → Int32}
theorem gA_ss {v : Int32} {a j : Nat} : gA (sA μ a j v) a j = v := by rw [gA_sA, if_pos ⟨rfl, rfl⟩]
theorem cnt_cg {p p' : Nat → Bool} : ∀ n, (∀ k, k < n → p' k = p k) → cnt p' n = cnt p n
  | 0, _ => rfl
  | n + 1, h => by rw [cnt_s, cnt_s, cnt_cg n (fun k hk => h k (by omega)), h n (by omega)]
theorem C_sl3 (hc : CS N (x + 312) w μ μ X) (hf : gF μ 705 (x + 17) = nI f) (hf14 : f ≤ 14) : ∃ μ', zloop (fun s => f7_findSuspects_L3 (x + 17) (x + 312) s.1 s.2) 1000000 (0, μ) = some (nI 28, μ') ∧ (∀ e, e < 28 → gA μ' (x + 20) (f * 28 + e) = X 0 e) ∧ (∀ j, j < f * 28 → gA μ' (x + 20) j = gA μ (x + 20) j) ∧ ∀ a, a ≠ x + 20 → SA a μ μ' := by
  obtain ⟨r, e1, h1⟩ := zloop_up (body := fun s => f7_findSuspects_L3 (x + 17) (x + 312) s.1 s.2) (fun i (μ : zM) => (nI i, μ)) (fun i μ1 => (∀ e, e < i → gA μ1 (x + 20) (f * 28 + e) = X 0 e) ∧ (∀ j, j < f * 28 → gA μ1 (x + 20) j = gA μ (x + 20) j) ∧ ∀ a, a ≠ x + 20 → SA a μ μ1) 28 (fun r => ∃ μ', r = (nI 28, μ') ∧ (∀ e, e < 28 → gA μ' (x + 20) (f * 28 + e) = X 0 e) ∧ (∀ j, j < f * 28 → gA μ' (x + 20) j = gA μ (x + 20) j) ∧ ∀ a, a ≠ x + 20 → SA a μ μ') (by
    intro i μ1 hi ⟨a1, a2, a3⟩
    refine ⟨sA μ1 (x + 20) (f * 28 + i) (X 0 i), ?_, fun e he => ?_, fun j hj => ?_, fun a ha => ?_⟩
    · show f7_findSuspects_L3 (x + 17) (x + 312) (nI i) μ1 = _
      unfold f7_findSuspects_L3
      rw [cltR28 (by omega), decide_eq_true hi, if_pos rfl, rI_nI (by omega) (by omega), obs, (a3 (x + 17) (by omega)).1, hf, show nI f * 28 + nI i = nI (f * 28 + i) by rw [show (28 : Int32) = nI 28 from rfl, pk_mul, nI_add], (a3 _ (by omega)).1, hc.r_role hi, show x + 17 + 3 = x + 20 by omega, wA_nI (by omega) (by omega), obs, obs, nI_1]
    · rw [gA_sA]
      by_cases c : e = i
      · subst c; rw [if_pos ⟨rfl, rfl⟩]
      · rw [if_neg (by omega)]; exact a1 e (by omega)
    · rw [gA_sA, if_neg (by omega)]; exact a2 j hj
    · have := a3 a ha
      exact ⟨this.1, this.2.1, this.2.2.1, fun j => by rw [gA_sA, if_neg (by omega)]; exact this.2.2.2.1 j, this.2.2.2.2.1, this.2.2.2.2.2⟩) (by
    intro μ1 ⟨a1, a2, a3⟩
    refine ⟨(nI 28, μ1), ?_, μ1, rfl, a1, a2, a3⟩
    show f7_findSuspects_L3 (x + 17) (x + 312) (nI 28) μ1 = _
    unfold f7_findSuspects_L3
    rw [show clt (nI 28) 28 = false from by decide, if_neg (by decide)]) 28 0 1000000 μ (by omega) (by omega) (by omega) ⟨fun e he => absurd he (by omega), fun _ _ => rfl, fun _ _ => SA.rf⟩
  obtain ⟨μ', rfl, a1, a2, a3⟩ := h1
  exact ⟨μ', e1, a1, a2, a3⟩
theorem SU.nx (su : SU N x m i so ro μ ν) (hb : so' = fun l => if l = i then false else so l) (h1 : gF μ' 705 (x + 17) = gF μ 705 (x + 17)) (h2 : ∀ j, gA μ' (x + 19) j = gA μ (x + 19) j) (h3 : ∀ j, gA μ' (x + 20) j = gA μ (x + 20) j) (h4 : ∀ j, j ≠ i → gA ν' (m + 33) j = gA ν (m + 33) j) (h5 : gA ν' (m + 33) i = 0) (h6 : ∀ j, j < 48 * i → gA ν' (m + 34) j = gA ν (m + 34) j) (nw : NW N) : SU N x m (i + 1) so' ro μ' ν' := by
  subst hb
  have ec : ∀ n, n ≤ i → cnt (fun l => if l = i then false else so l) n = cnt so n := fun n hn => cnt_cg n (fun k hk => if_neg (by omega))
  obtain ⟨a1, a2, a3⟩ := su
  refine ⟨?_, fun l hl hs => ?_, fun l hl => ?_⟩
  · rw [h1, a1, cnt_s, ec i (Nat.le_refl _), if_neg (show ¬ (if i = i then false else so i) = true by rw [if_pos rfl]; decide)]
  · have hs : (if l = i then false else so l) = true := hs
    by_cases c : l = i
    · rw [if_pos c] at hs; exact absurd hs (by decide)
    · rw [if_neg c] at hs
      obtain ⟨b1, b2⟩ := a2 l (by omega) hs
      rw [ec l (by omega), h2]
      exact ⟨b1, fun e he => by rw [h3]; exact b2 e he⟩
  · by_cases c : l = i
    · subst c
      refine ⟨?_, fun hs => ?_⟩
      · rw [h5]; show (0 : Int32) = bI (if l = l then false else so l); rw [if_pos rfl]; rfl
      · have hs : (if l = l then false else so l) = true := hs
        rw [if_pos rfl] at hs; exact absurd hs (by decide)
    · obtain ⟨b1, b2⟩ := a3 l (by omega)
      refine ⟨?_, fun hs e he => ?_⟩
      · rw [h4 l c]; show _ = bI (if l = i then false else so l); rw [if_neg c]; exact b1
      · have hs : (if l = i then false else so l) = true := hs
        rw [if_neg c] at hs
        have := nw.pl_48 he
        rw [h6 _ (by omega)]; exact b2 hs e he
theorem sus_step (h : JJ N S st w x m top μ ν) (su : SU N x m i so ro μ ν) (hi : i ≤ nL N) : ∃ so' ro' μ' ν', f7_findSuspects_L1 (x + 17) (x + 51) (x + 312) (nI i) μ = some (.inl (nI (i + 1), μ')) ∧ f12_laysSuspect m (nI i) ν = some ν' ∧ FrB x μ μ' ∧ FZ (x + 312) μ' ∧ FrT m ν ν' ∧ SU N x m (i + 1) so' ro' μ' ν' ∧ cnt so' i = cnt so i := by
  have nw := h.1.nw
  have l14 := nw.l14
  have cs := h.1.cs
  have hw := h.ww
  obtain ⟨c, n, c16, n80, a3, a4, a5, a6, a7⟩ := h.2.2.2.2.1
  have gl : gF ν 1202 m = nI (nL N) := h.1.m0.2.2.2.1.2.1
  have ci := cnt_le (p := so) i
  -- the class's beginning
  have c0 : f7_findSuspects_L1 (x + 17) (x + 51) (x + 312) (nI i) μ = if (decide (i < nL N) && !(ceq (S 40 i) 1)) = true then some (.inl (nI (i + 1), μ)) else ((f8_copyFrom (x + 312) (x + 51) μ).bind fun μ11 => (if decide (i < nL N) = true then ((f8_cutLink (x + 312) (nI i) μ11).bind fun μ31 => some μ31) else (some μ11)).bind fun μ12 => zb2 (zloop (fun s => f7_findSuspects_L2 (x + 17) (x + 312) s.1 s.2) 1000000 (0, μ12)) fun v_k_15 μ16 => (f7_isAsSeen (x + 17) (x + 312) μ16).bind fun t19 => if t19 = true then (zb2 (zloop (fun s => f7_findSuspects_L3 (x + 17) (x + 312) s.1 s.2) 1000000 (0, μ16)) fun v_end_23 μ24 => (wA μ24 (x + 17 + 2) 15 (gF μ24 705 (x + 17)) (nI i)).bind fun μ28 => (wF μ28 705 (x + 17) ((gF μ28 705 (x + 17)) + 1)).bind fun μ29 => (some (nI i + 1)).bind fun v_link_30 => some (.inl (v_link_30, μ29))) else ((some (nI i + 1)).bind fun v_link_20 => some (.inl (v_link_20, μ16)))) := by
    unfold f7_findSuspects_L1
    rw [cs.c_wir, obs, obs, cs.w_l, clt_nI (by omega) (by omega), decide_eq_false (by omega), if_neg (by decide), clt_nI (by omega) (by omega), obs]
    by_cases cc : i < nL N
    · rw [decide_eq_true cc, if_pos rfl, rZ_nI (by omega) (by omega), obs, obs, cs.r_whole (by omega), Bool.true_and]
      cases ceq (S 40 i) 1 with
      | true => rfl
      | false => rw [show (!false) = true from rfl, if_pos rfl, if_pos rfl, obs, nI_1]
    · rw [decide_eq_false cc, if_neg (by decide), obs, Bool.false_and]
      rfl
  -- the reference's beginning
  have r0 : f12_laysSuspect m (nI i) ν = if (decide (i < nL N) && !(ceq (S 40 i) 1)) = true then some (sA ν (m + 33) i 0) else ((f12_tries m (sA ν (m + 33) i 1)).bind fun μ6 => (if (clt (nI i) (gF μ6 1202 m)) = true then ((f12_isCut m (nI i) μ6).bind fun μ32 => some μ32) else (some μ6)).bind fun μ7 => zb2 (zloop (fun s => f12_laysSuspect_L1 m s.1 s.2) 1000000 (0, μ7)) fun v_n_10 μ11 => zb2 (zloop (fun s => f12_laysSuspect_L2 m (nI i) s.1 s.2) 1000000 (0, μ11)) fun v_p_16 μ17 => zb2 (zloop (fun s => f12_laysSuspect_L3 m (nI i) s.1 s.2) 1000000 (0, μ17)) fun v_k_23 μ24 => some μ24) := by
    unfold f12_laysSuspect
    rw [gl, ceq_nI (by omega) (by omega)]
    by_cases cc : i < nL N
    · rw [decide_eq_false (show ¬ i = nL N by omega), if_neg (by decide), decide_eq_true cc, Bool.true_and]
      rcases whole2 h (nI i) with ⟨l, hl, el, e1, e2⟩ | ⟨e0, e1, e2⟩
      · have el := nI_inj (by omega) (by omega) el
        subst el
        rw [e2, obs, obs]
        cases ceq (S 40 i) 1 with
        | true =>
          rw [if_pos rfl, obs, wA_nI (by omega) (by omega), obs, rA_nI (by omega) (by omega), obs, gA_ss, if_neg (by decide), if_neg (by decide)]
        | false =>
          rw [if_neg (by decide), obs, wA_nI (by omega) (by omega), obs, rA_nI (by omega) (by omega), obs, gA_ss, if_pos (by decide), if_pos (by decide)]
      · rw [rngT (by omega) cc] at e0; cases e0
    · rw [decide_eq_true (show i = nL N by omega), if_pos rfl, obs, if_pos rfl, obs, wA_nI (by omega) (by omega), obs, rA_nI (by omega) (by omega), obs, gA_ss, decide_eq_false cc, Bool.false_and, if_neg (by decide), if_neg (by decide)]
  cases cw : (decide (i < nL N) && !(ceq (S 40 i) 1)) with
  | true =>
    rw [cw, if_pos rfl] at c0 r0
    exact ⟨_, ro, μ, _, c0, r0, FrB.rf, h.2.2.2.1, FrT.w33, su.nx rfl rfl (fun _ => rfl) (fun _ => rfl) (fun j hj => by rw [gA_sA, if_neg (by omega)]) (by rw [gA_sA, if_pos ⟨rfl, rfl⟩]) (fun j hj => by rw [gA_sA, if_neg (by omega)]) nw, cnt_cg i (fun k hk => if_neg (by omega))⟩
  | false =>
    rw [cw, if_neg (by decide)] at c0 r0
    have ft0 : FrT m ν (sA ν (m + 33) i 1) := FrT.w33
    have h0 := h.look FrA.rf h.2.2.2.1 ft0
    obtain ⟨X, μ1, ν1, u1, u2, u3, u4, u5, u6, u7, u8⟩ := sus_run (l := i) (n := n) h0 hi n80 a5 (by rw [ft0.1 1253 m (by omega) (by omega)]; exact a6)
    rw [u1] at c0
    rw [u2] at r0
    have h1 := h0.look u5 u6 u7
    have sg1 := h1.2.2.2.2.1
    have f703 : gF μ1 703 (x + 17) = nI c := by rw [(u5 (x + 17) (by omega) (by omega)).1]; exact a3
    obtain ⟨rs, s1, s2⟩ := C_seen (m := m) (ν := ν1) (μb := μ) u3 sg1 f703 c16
    rw [s1, obs] at c0
    obtain ⟨ν2, v1, v2, v3, v4, v5, v6⟩ := R_sl2 u4 (l := i) (by omega)
    rw [v1, ozb2] at r0
    have ft2 : FrT m ν ν2 := (ft0.tr u7).tr v3
    have sg2 : SG N x m μ1 ν2 := (h0.look u5 u6 (u7.tr v3)).2.2.2.2.1
    have f33 : gA ν2 (m + 33) i = 1 := by
      rw [v6, u8 _ _ (by omega), gA_sA, if_pos ⟨rfl, rfl⟩]
    obtain ⟨ν3, vb, w1, w2, w3, w4, w5, w6⟩ := R_sl3 v2 sg2 (by rw [ft2.1 1252 m (by omega) (by omega)]; exact a4) c16 (by omega) v4 f33
    rw [w1, ozb2] at r0
    have ft3 := ft2.tr w2
    have evb : vb = rs := by
      cases vb with
      | true => exact (s2.mpr (w4.mp rfl)).symm
      | false =>
        cases rs with
        | false => rfl
        | true => exact absurd (w4.mpr (s2.mp rfl)) (by decide)
    subst evb
    have fi : gF μ1 705 (x + 17) = nI (cnt so i) := by rw [(u5 (x + 17) (by omega) (by omega)).1]; exact su.1
    have x21 : ∀ j, gA μ1 (x + 19) j = gA μ (x + 19) j := fun j => (u5 (x + 19) (by omega) (by omega)).2.2.2.1 j
    have x22 : ∀ j, gA μ1 (x + 20) j = gA μ (x + 20) j := fun j => (u5 (x + 20) (by omega) (by omega)).2.2.2.1 j
    have m33 : ∀ j, j ≠ i → gA ν3 (m + 33) j = gA ν (m + 33) j := fun j hj => by rw [w5 j hj, v6, u8 _ _ (by omega), gA_sA, if_neg (by omega)]
    have m34 : ∀ j, j < 48 * i → gA ν3 (m + 34) j = gA ν (m + 34) j := fun j hj => by rw [w6, v5 j hj, u8 _ _ (by omega), gA_sA, if_neg (by omega)]
    cases vb with
    | false =>
      rw [if_neg (by decide), obs, nI_1] at c0
      exact ⟨_, ro, μ1, ν3, c0, r0, FrB.fa u5, u6, ft3, su.nx rfl (by rw [fi]; exact su.1.symm) x21 x22 m33 w3 m34 nw, cnt_cg i (fun k hk => if_neg (by omega))⟩
    | true =>
      obtain ⟨μ2, y1, y2, y3, y4⟩ := C_sl3 u3 fi (by omega)
      have f2 : gF μ2 705 (x + 17) = nI (cnt so i) := by rw [(y4 (x + 17) (by omega)).1]; exact fi
      rw [if_pos rfl, y1, ozb2, f2, show x + 17 + 2 = x + 19 by omega, wA_nI (by omega) (by omega), obs, gF_sA, f2, nI_1, show ∀ μ v, wF μ 705 (x + 17) v = some (sF μ 705 (x + 17) v) from fun _ _ => rfl, obs, nI_1, obs] at c0
      have ec : ∀ n, n ≤ i → cnt (fun l => if l = i then true else so l) n = cnt so n := fun n hn => cnt_cg n (fun k hk => if_neg (by omega))
      obtain ⟨b1, b2, b3⟩ := su
      refine ⟨fun l => if l = i then true else so l, fun l e => if l = i then X 0 e else ro l e, _, ν3, c0, r0, ?_, ?_, ft3, ⟨?_, fun l hl hs => ?_, fun l hl => ?_⟩, ec i (Nat.le_refl _)⟩
      · refine (FrB.fa u5).tr ⟨fun a h1 h2 h3 h4 h5 => ?_, fun k hk => ?_⟩
        · have z := y4 a h5
          exact ⟨fun k => by rw [gF_sF, if_neg (by omega), gF_sA]; exact z.1 k, z.2.1, z.2.2.1, fun j => by rw [gA_sF, gA_sA, if_neg (by omega)]; exact z.2.2.2.1 j, z.2.2.2.2.1, z.2.2.2.2.2⟩
        · rw [gF_sF, if_neg (by omega), gF_sA]; exact (y4 (x + 17) (by omega)).1 k
      · refine u6.mv (fun a h1 h2 => ?_)
        have z := y4 a (by omega)
        exact ⟨fun k => by rw [gF_sF, if_neg (by omega), gF_sA]; exact z.1 k, z.2.1, z.2.2.1, fun j => by rw [gA_sF, gA_sA, if_neg (by omega)]; exact z.2.2.2.1 j, z.2.2.2.2.1, z.2.2.2.2.2⟩
      · rw [gF_sF, if_pos ⟨rfl, rfl⟩, cnt_s, ec i (Nat.le_refl _), if_pos (show (if i = i then true else so i) = true by rw [if_pos rfl])]
      · have hs : (if l = i then true else so l) = true := hs
        rw [ec l (by omega), gA_sF, gA_sA]
        by_cases c : l = i
        · subst c
          rw [if_pos ⟨rfl, rfl⟩]
          refine ⟨rfl, fun e he => ?_⟩
          have := nw.e28 he
          rw [gA_sF, gA_sA, if_neg (by omega), y2 e (by omega)]; exact (if_pos rfl).symm
        · rw [if_neg c] at hs
          have lt : cnt so l < cnt so i := by
            have h1 := cnt_mono (p := so) (a := l + 1) (i - (l + 1))
            rw [show l + 1 + (i - (l + 1)) = i by omega, cnt_s, if_pos hs] at h1
            omega
          obtain ⟨d1, d2⟩ := b2 l (by omega) hs
          rw [if_neg (by omega)]
          refine ⟨by rw [(y4 (x + 19) (by omega)).2.2.2.1, x21]; exact d1, fun e he => ?_⟩
          have := nw.e28 he
          rw [gA_sF, gA_sA, if_neg (by omega), y3 _ (by omega), x22]; exact (d2 e he).trans (if_neg c).symm
      · by_cases c : l = i
        · subst c
          refine ⟨?_, fun _ e he => ?_⟩
          · rw [w3]; show bI true = bI (if l = l then true else so l); rw [if_pos rfl]
          · rw [w6, v4 e he]; exact (if_pos rfl).symm
        · obtain ⟨d1, d2⟩ := b3 l (by omega)
          refine ⟨?_, fun hs e he => ?_⟩
          · rw [m33 l c]; show _ = bI (if l = i then true else so l); rw [if_neg c]; exact d1
          · have hs : (if l = i then true else so l) = true := hs
            rw [if_neg c] at hs
            have := nw.pl_48 he
            rw [m34 _ (by omega)]; exact (d2 hs e he).trans (if_neg c).symm
/-- all links -/
theorem sus_all : ∀ k i fuel μ ν S so ro, i + k = nL N + 1 → k < fuel → JJ N S st w x m top μ ν → SU N x m i so ro μ ν → ∃ so' ro' μ' ν', zloop (fun s => f7_findSuspects_L1 (x + 17) (x + 51) (x + 312) s.1 s.2) fuel (nI i, μ) = some (nI (nL N + 1), μ') ∧ zloop (fun s => f12_laysSuspects_L1 m s.1 s.2.1 s.2.2) fuel (nI (cnt so i), nI i, ν) = some (nI (cnt so' (nL N + 1)), nI (nL N + 1), ν') ∧ FrB x μ μ' ∧ FZ (x + 312) μ' ∧ FrT m ν ν' ∧ SU N x m (nL N + 1) so' ro' μ' ν' := by
  intro k
  induction k with
  | zero =>
    intro i fuel μ ν S so ro hi hf h su
    obtain ⟨f, rfl⟩ : ∃ f, fuel = f + 1 := ⟨fuel - 1, by omega⟩
    have l14 := h.1.nw.l14
    have ei : i = nL N + 1 := by omega
    subst ei
    refine ⟨so, ro, μ, ν, zl_inr ?_, zl_inr ?_, FrB.rf, h.2.2.2.1, FrT.rf, su⟩
    · show f7_findSuspects_L1 (x + 17) (x + 51) (x + 312) (nI (nL N + 1)) μ = _
      unfold f7_findSuspects_L1
      rw [h.1.cs.c_wir, obs, h.1.cs.w_l, clt_nI (by omega) (by omega), decide_eq_true (by omega), if_pos rfl]
    · show f12_laysSuspects_L1 m (nI (cnt so (nL N + 1))) (nI (nL N + 1)) ν = _
      unfold f12_laysSuspects_L1
      rw [h.1.m0.2.2.2.1.2.1, clt_nI (by omega) (by omega), decide_eq_true (by omega), if_pos rfl]
  | succ k ih =>
    intro i fuel μ ν S so ro hi hf h su
    obtain ⟨f, rfl⟩ : ∃ f, fuel = f + 1 := ⟨fuel - 1, by omega⟩
    have l14 := h.1.nw.l14
    obtain ⟨so1, ro1, μ1, ν1, e1, e2, fb, fz, ft, su1, ec⟩ := sus_step h su (by omega)
    obtain ⟨so2, ro2, μ2, ν2, e3, e4, fb2, fz2, ft2, su2⟩ := ih (i + 1) f μ1 ν1 _ so1 ro1 (by omega) (by omega) (h.look2 fb fz ft) su1
    refine ⟨so2, ro2, μ2, ν2, zl_in2 e1 e3, zl_in2 ?_ e4, fb.tr fb2, fz2, ft.tr ft2, su2⟩
    show f12_laysSuspects_L1 m (nI (cnt so i)) (nI i) ν = _
    unfold f12_laysSuspects_L1
    rw [h.1.m0.2.2.2.1.2.1, clt_nI (by omega) (by omega), decide_eq_false (by omega), if_neg (by decide), e2, obs, rA_nI (by omega) (by omega), obs, (su1.2.2 i (by omega)).1, obs, obs, nI_1, cnt_s, ec]
    cases so1 i with
    | true => rw [if_pos rfl, show bI true = nI 1 from rfl, nI_add]
    | false => rw [if_neg (by decide), show bI false = nI 0 from rfl, nI_add, Nat.add_zero]
theorem sus2 (h : JJ N S st w x m top μ ν) : ∃ so ro μ' ν', f7_findSuspects (x + 17) (x + 51) (x + 312) μ = some μ' ∧ f12_laysSuspects m ν = some (nI (cnt so (nL N + 1)), ν') ∧ FrB x μ μ' ∧ FZ (x + 312) μ' ∧ FrT m ν ν' ∧ SU N x m (nL N + 1) so ro μ' ν' := by
  have fb0 : FrB x μ (sF μ 705 (x + 17) 0) := ⟨fun a _ _ h3 _ _ => ⟨fun k => by rw [gF_sF, if_neg (by omega)], fun _ => rfl, fun _ => rfl, fun _ => rfl, fun _ => rfl, fun _ => rfl⟩, fun k hk => by rw [gF_sF, if_neg (by omega)]⟩
  have fz0 : FZ (x + 312) (sF μ 705 (x + 17) 0) := h.2.2.2.1.mv (fun a h1 h2 => ⟨fun k => by rw [gF_sF, if_neg (by omega)], fun _ => rfl, fun _ => rfl, fun _ => rfl, fun _ => rfl, fun _ => rfl⟩)
  have l14 := h.1.nw.l14
  obtain ⟨so, ro, μ', ν', e1, e2, fb, fz, ft, su⟩ := sus_all (nL N + 1) 0 1000000 (sF μ 705 (x + 17) 0) ν _ (fun _ => false) (fun _ _ => 0) (by omega) (by omega) (h.look2 fb0 fz0 FrT.rf) ⟨by rw [gF_sF, if_pos ⟨rfl, rfl⟩]; rfl, fun l hl => absurd hl (by omega), fun l hl => absurd hl (by omega)⟩
  refine ⟨so, ro, μ', ν', ?_, ?_, fb0.tr fb, fz, ft, su⟩
  · unfold f7_findSuspects
    rw [show wF μ 705 (x + 17) 0 = some (sF μ 705 (x + 17) 0) from rfl, obs, show zloop (fun s => f7_findSuspects_L1 (x + 17) (x + 51) (x + 312) s.1 s.2) 1000000 (0, sF μ 705 (x + 17) 0) = some (nI (nL N + 1), μ') from e1, ozb2]
  · unfold f12_laysSuspects
    rw [show zloop (fun s => f12_laysSuspects_L1 m s.1 s.2.1 s.2.2) 1000000 (0, 0, ν) = some (nI (cnt so (nL N + 1)), nI (nL N + 1), ν') from e2, ozb3]
end zK3s
