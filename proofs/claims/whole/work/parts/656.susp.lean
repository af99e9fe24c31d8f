/-! WHAT WAS SEEN, in the reference -/
section zK2s
variable {N : zN} {x m w s B st top n k i f c p j b l t e : Nat} {μ0 μ μ' μ1 ν0 ν ν' ν1 : zM} {S S' X : zS}
theorem MS.ft2 (q : MS N m B ν ν S) (hF : ∀ k, gF ν' k m = gF ν k m) (hA : ∀ a j, a ≠ m + 33 → a ≠ m + 34 → gA ν' a j = gA ν a j) : MS N m B ν' ν' S := by
  have := q.row0.mv (ν' := ν') (fun k _ _ => hF k) (fun d j h1 h2 => hA _ _ (by omega) (by omega)) (fun j _ _ => hA _ _ (by omega) (by omega)) (fun j => hA _ _ (by omega) (by omega)) (fun j => hA _ _ (by omega) (by omega))
  exact this.ms (by rw [hF]; exact q.bs) q.2.2.1.2.2.2
theorem R_sl2 (q : MS N m 2874 ν ν X) (hl : l ≤ 14) : ∃ ν', zloop (fun s => f12_laysSuspect_L2 m (nI l) s.1 s.2) 1000000 (0, ν) = some (nI (6 * nB N), ν') ∧ MS N m 2874 ν' ν' X ∧ FrT m ν ν' ∧ (∀ e, e < 2 * nL N → gA ν' (m + 34) (48 * l + pl N e) = X 0 e) ∧ (∀ j, j < 48 * l → gA ν' (m + 34) j = gA ν (m + 34) j) ∧ ∀ j, gA ν' (m + 33) j = gA ν (m + 33) j := by
  have nw := q.nw
  have b8 := nw.b8
  obtain ⟨r, e1, h1⟩ := zloop_up (body := fun s => f12_laysSuspect_L2 m (nI l) s.1 s.2) (fun i (ν : zM) => (nI i, ν)) (fun i ν1 => MS N m 2874 ν1 ν1 X ∧ FrT m ν ν1 ∧ (∀ p, p < i → gA ν1 (m + 34) (48 * l + p) = rw_ m 2874 ν (100 + 18 * p)) ∧ (∀ j, j < 48 * l → gA ν1 (m + 34) j = gA ν (m + 34) j) ∧ (∀ j, gA ν1 (m + 33) j = gA ν (m + 33) j) ∧ ∀ j, gA ν1 (m + 24) j = gA ν (m + 24) j) (6 * nB N) (fun r => ∃ ν', r = (nI (6 * nB N), ν') ∧ MS N m 2874 ν' ν' X ∧ FrT m ν ν' ∧ (∀ p, p < 6 * nB N → gA ν' (m + 34) (48 * l + p) = rw_ m 2874 ν (100 + 18 * p)) ∧ (∀ j, j < 48 * l → gA ν' (m + 34) j = gA ν (m + 34) j) ∧ ∀ j, gA ν' (m + 33) j = gA ν (m + 33) j) (by
    intro i ν1 hi ⟨a1, a2, a3, a4, a5, a6⟩
    have er : rw_ m 2874 ν1 (100 + 18 * i + 0) = rw_ m 2874 ν (100 + 18 * i) := by
      unfold rw_
      rw [if_pos (by omega), if_pos (by omega), a6]; rfl
    refine ⟨sA ν1 (m + 34) (48 * l + i) (rw_ m 2874 ν (100 + 18 * i)), ?_, a1.ft2 (fun _ => rfl) (fun a j h1 h2 => by rw [gA_sA, if_neg (by omega)]), a2.tr FrT.w34, fun p hp => ?_, fun j hj => ?_, fun j => ?_, fun j => ?_⟩
    · show f12_laysSuspect_L2 m (nI l) (nI i) ν1 = _
      unfold f12_laysSuspect_L2
      rw [a1.g_b, mulQ6, clt_nI (by omega) (by omega), decide_eq_true hi, if_pos rfl, show f12_portOf m (nI i) 0 ν1 = some (rw_ m 2874 ν1 (100 + 18 * i + 0)) from a1.portR (k := 0) (by omega) (by omega), obs, er, mulQ48, nI_add, wA_nI (by omega) (by omega), obs, obs, nI_1]
    · rw [gA_sA]
      by_cases c : p = i
      · subst c; rw [if_pos ⟨rfl, rfl⟩]
      · rw [if_neg (by omega)]; exact a3 p (by omega)
    · rw [gA_sA, if_neg (by omega)]; exact a4 j hj
    · rw [gA_sA, if_neg (by omega)]; exact a5 j
    · rw [gA_sA, if_neg (by omega)]; exact a6 j) (by
    intro ν1 ⟨a1, a2, a3, a4, a5, a6⟩
    refine ⟨(nI (6 * nB N), ν1), ?_, ν1, rfl, a1, a2, a3, a4, a5⟩
    show f12_laysSuspect_L2 m (nI l) (nI (6 * nB N)) ν1 = _
    unfold f12_laysSuspect_L2
    rw [a1.g_b, mulQ6, clt_nI (by omega) (by omega), decide_eq_false (by omega), if_neg (by decide)]) (6 * nB N) 0 1000000 ν (by omega) (by omega) (by omega) ⟨q, FrT.rf, fun p hp => absurd hp (by omega), fun _ _ => rfl, fun _ => rfl, fun _ => rfl⟩
  obtain ⟨ν', rfl, a1, a2, a3, a4, a5⟩ := h1
  refine ⟨ν', e1, a1, a2, fun e he => ?_, a4, a5⟩
  have hb := nw.bo_b he
  have hp := nw.po_6 he
  have := nw.pl_48 he
  rw [a3 _ (by unfold pl; omega)]
  exact q.1.1 e 0 he (by omega) (fun z => absurd z (by omega))
theorem R_sl3 (q : MS N m 2874 ν ν X) (sg : SG N x m μ ν) (hc : gF ν 1252 m = nI c) (hc16 : c ≤ 16) (hl : l ≤ 14) (hr : ∀ e, e < 2 * nL N → gA ν (m + 34) (48 * l + pl N e) = X 0 e) (h1 : gA ν (m + 33) l = 1) : ∃ ν' v, zloop (fun s => f12_laysSuspect_L3 m (nI l) s.1 s.2) 1000000 (0, ν) = some (nI c, ν') ∧ FrT m ν ν' ∧ gA ν' (m + 33) l = bI v ∧ (v = true ↔ ∀ k, k < c → ASk N x μ X k) ∧ (∀ j, j ≠ l → gA ν' (m + 33) j = gA ν (m + 33) j) ∧ ∀ j, gA ν' (m + 34) j = gA ν (m + 34) j := by
  have nw := q.nw
  have b8 := nw.b8
  obtain ⟨c', n', c1, _, a3, a4, a5, a6, a7⟩ := sg
  have ec : c' = c := nI_inj (by omega) (by omega) (a4.symm.trans hc)
  subst ec
  obtain ⟨r, e1, h1⟩ := zloop_up (body := fun s => f12_laysSuspect_L3 m (nI l) s.1 s.2) (fun i (y : Bool × zM) => (nI i, y.2)) (fun i y => MS N m 2874 y.2 y.2 X ∧ FrT m ν y.2 ∧ gA y.2 (m + 33) l = bI y.1 ∧ (y.1 = true ↔ ∀ k, k < i → ASk N x μ X k) ∧ (∀ j, j ≠ l → gA y.2 (m + 33) j = gA ν (m + 33) j) ∧ ∀ j, gA y.2 (m + 34) j = gA ν (m + 34) j) c' (fun r => ∃ ν' v, r = (nI c', ν') ∧ FrT m ν ν' ∧ gA ν' (m + 33) l = bI v ∧ (v = true ↔ ∀ k, k < c' → ASk N x μ X k) ∧ (∀ j, j ≠ l → gA ν' (m + 33) j = gA ν (m + 33) j) ∧ ∀ j, gA ν' (m + 34) j = gA ν (m + 34) j) (by
    intro i ⟨v, ν1⟩ hi ⟨b1, b2, b3, b4, b5, b6⟩
    have b1 : MS N m 2874 ν1 ν1 X := b1
    have b2 : FrT m ν ν1 := b2
    have b3 : gA ν1 (m + 33) l = bI v := b3
    have b4 : v = true ↔ ∀ k, k < i → ASk N x μ X k := b4
    have b6 : ∀ j, gA ν1 (m + 34) j = gA ν (m + 34) j := b6
    obtain ⟨b, p, r, hb, hp, hr5, g1, g2, g3, g4, g5⟩ := a7 i hi
    obtain ⟨he, ebo, epo⟩ := nw.2.2.2.2.2.1 _ _ hb hp
    have epl : pl N (eo N b p) = 6 * b + p := by unfold pl; rw [ebo, epo]
    have p6 := nw.p6 hb
    have x31 : gA ν1 (m + 31) i = nI (6 * b + p) := by rw [b2.2.2.2.1 _ _ (by omega) (by omega)]; exact g4
    have x32 : gA ν1 (m + 32) i = nI r := by rw [b2.2.2.2.1 _ _ (by omega) (by omega)]; exact g5
    have st0 : f12_laysSuspect_L3 m (nI l) (nI i) ν1 = some (.inl (nI (i + 1), sA ν1 (m + 33) l (if ceq (X 0 (eo N b p)) (nI r) = true then bI v else 0))) := by
      unfold f12_laysSuspect_L3
      rw [b2.1 1252 m (by omega) (by omega), hc, clt_nI (by omega) (by omega), decide_eq_true hi, if_pos rfl, rA_nI (by omega) (by omega), obs, x31, mulQ48, nI_add, rA_nI (by omega) (by omega), obs, ← epl, b6, hr _ he, rA_nI (by omega) (by omega), obs, x32, rA_nI (by omega) (by omega), obs, b3]
      cases ceq (X 0 (eo N b p)) (nI r) with
      | true => rw [if_pos rfl, if_pos rfl, obs, wA_nI (by omega) (by omega), obs, obs, nI_1]
      | false => rw [if_neg (by decide), if_neg (by decide), obs, wA_nI (by omega) (by omega), obs, obs, nI_1]
    have ask : ASk N x μ X i ↔ X 0 (eo N b p) = nI r := by
      refine ⟨fun z => z b p r hb hp g1 g2 g3 hr5, fun z b' p' r' hb' hp' u1 u2 u3 u4 => ?_⟩
      have p6' := nw.p6 hb'
      have x1 : b' = b := nI_inj (by omega) (by omega) (u1.symm.trans g1)
      subst x1
      have x2 : p' = p := nI_inj (by omega) (by omega) (u2.symm.trans g2)
      subst x2
      rw [← u3, g3]; exact z
    refine ⟨((if ceq (X 0 (eo N b p)) (nI r) = true then v else false), sA ν1 (m + 33) l (if ceq (X 0 (eo N b p)) (nI r) = true then bI v else 0)), st0, b1.ft2 (fun _ => rfl) (fun a j h1 h2 => by rw [gA_sA, if_neg (by omega)]), b2.tr FrT.w33, ?_, ?_, fun j hj => ?_, fun j => ?_⟩
    · show gA (sA ν1 (m + 33) l _) (m + 33) l = _
      rw [gA_sA, if_pos ⟨rfl, rfl⟩]
      cases ceq (X 0 (eo N b p)) (nI r) <;> rfl
    · show (if ceq (X 0 (eo N b p)) (nI r) = true then v else false) = true ↔ _
      cases c5 : ceq (X 0 (eo N b p)) (nI r) with
      | true =>
        rw [if_pos rfl, b4]
        refine ⟨fun z k hk => ?_, fun z k hk => z k (by omega)⟩
        by_cases ck : k = i
        · rw [ck]; exact ask.mpr (ceq_of c5)
        · exact z k (by omega)
      | false =>
        rw [if_neg (by decide)]
        refine ⟨fun z => absurd z (by decide), fun z => ?_⟩
        have := ask.mp (z i (by omega))
        rw [this] at c5
        exact absurd rfl (of_decide_eq_false c5)
    · show gA (sA ν1 (m + 33) l _) (m + 33) j = _
      rw [gA_sA, if_neg (by omega)]; exact b5 j hj
    · show gA (sA ν1 (m + 33) l _) (m + 34) j = _
      rw [gA_sA, if_neg (by omega)]; exact b6 j) (by
    intro ⟨v, ν1⟩ ⟨b1, b2, b3, b4, b5, b6⟩
    refine ⟨(nI c', ν1), ?_, ν1, v, rfl, b2, b3, b4, b5, b6⟩
    show f12_laysSuspect_L3 m (nI l) (nI c') ν1 = _
    unfold f12_laysSuspect_L3
    rw [show gF ν1 1252 m = nI c' from (b2.1 1252 m (by omega) (by omega)).trans hc, clt_nI (by omega) (by omega), decide_eq_false (by omega), if_neg (by decide)]) c' 0 1000000 (true, ν) (by omega) (by omega) (by omega) ⟨q, FrT.rf, h1, ⟨fun _ k hk => absurd hk (by omega), fun _ => rfl⟩, fun _ _ => rfl, fun _ => rfl⟩
  obtain ⟨ν', v, rfl, z1, z2, z3, z4, z5⟩ := h1
  exact ⟨ν', v, e1, z1, z2, z3, z4, z5⟩
/-- links up to i: which ones are suspects, with the roles they would have led to -/
def SU (N : zN) (x m i : Nat) (so : Nat → Bool) (ro : Nat → Nat → Int32) (μ ν : zM) : Prop := gF μ 705 (x + 17) = nI (cnt so i) ∧ (∀ l, l < i → so l = true → gA μ (x + 19) (cnt so l) = nI l ∧ ∀ e, e < 2 * nL N → gA μ (x + 20) (cnt so l * 28 + e) = ro l e) ∧ ∀ l, l < i → gA ν (m + 33) l = bI (so l) ∧ (so l = true → ∀ e, e < 2 * nL N → gA ν (m + 34) (48 * l + pl N e) = ro l e)
end zK2s
