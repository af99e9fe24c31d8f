/-! WHAT WAS SEEN: which cut link it speaks for -/
section zK1s
variable {N : zN} {x m w s B st top n k i f c p j b l t e : Nat} {μ0 μ μ' μ1 ν0 ν ν' ν1 : zM} {S S' X : zS}
theorem FrT.w33 {v : Int32} : FrT m ν (sA ν (m + 33) j v) := ⟨fun _ _ _ _ => rfl, fun _ _ _ => rfl, fun _ _ _ => rfl, fun a j' h1 h2 => by rw [gA_sA, if_neg (by omega)], fun _ _ _ => rfl, fun _ _ _ => rfl⟩
/-- rows that no look ahead uses -/
def FrU (m : Nat) (ν ν' : zM) : Prop := ∀ a j, a = m + 33 ∨ a = m + 34 → gA ν' a j = gA ν a j
theorem FrU.rf : FrU m ν ν := fun _ _ _ => rfl
theorem FrU.tr (h : FrU m ν ν1) (h2 : FrU m ν1 ν') : FrU m ν ν' := fun a j z => (h2 a j z).trans (h a j z)
theorem FrU.fm (h : FrM m B ν ν1) : FrU m ν ν1 := fun a j z => h.2.2.2.1 a j (by omega) (by omega) (by omega)
theorem FrU.tries : FrU m ν (sF (cpW ν (m + 24) (m + 24) 0 2874 2874) 1244 m 2874) := fun a j z => by rw [gA_sF, gA_cpW, if_neg (by omega)]
theorem FrT.w34 {v : Int32} : FrT m ν (sA ν (m + 34) j v) := ⟨fun _ _ _ _ => rfl, fun _ _ _ => rfl, fun _ _ _ => rfl, fun a j' h1 h2 => by rw [gA_sA, if_neg (by omega)], fun _ _ _ => rfl, fun _ _ _ => rfl⟩
/-- the state `n` steps behind a cut of link `l`, or behind none -/
def sst (N : zN) (st n l : Nat) (S : zS) : zS := stp N st n (if l < nL N then sq_cut N l S else S)
theorem sus_run (h : JJ N S st w x m top μ ν) (hl : l ≤ nL N) (hn : n ≤ 80) (h704 : gF μ 704 (x + 17) = nI n) (h53 : gF ν 1253 m = nI n) : ∃ X μ' ν', (∀ {R : Type} (K : zM → Option R), ((f8_copyFrom (x + 312) (x + 51) μ).bind fun μ11 => (if decide (l < nL N) = true then ((f8_cutLink (x + 312) (nI l) μ11).bind fun μ31 => some μ31) else (some μ11)).bind fun μ12 => zb2 (zloop (fun s => f7_findSuspects_L2 (x + 17) (x + 312) s.1 s.2) 1000000 (0, μ12)) fun _ μ16 => K μ16) = K μ') ∧ (∀ {R : Type} (K : zM → Option R), ((f12_tries m ν).bind fun μ6 => (if (clt (nI l) (gF μ6 1202 m)) = true then ((f12_isCut m (nI l) μ6).bind fun μ32 => some μ32) else (some μ6)).bind fun μ7 => zb2 (zloop (fun s => f12_laysSuspect_L1 m s.1 s.2) 1000000 (0, μ7)) fun _ μ11 => K μ11) = K ν') ∧ CS N (x + 312) w μ' μ' X ∧ MS N m 2874 ν' ν' X ∧ FrA x μ μ' ∧ FZ (x + 312) μ' ∧ FrT m ν ν' ∧ FrU m ν ν' := by
  have nw := h.1.nw
  have s9 := h.1.st9
  have l14 := nw.l14
  have hw := h.ww
  obtain ⟨μ2, e4, c1, fa, t8, iv, k0, k46⟩ := C_ahead h
  obtain ⟨e5, q2, ft⟩ := R_ahead h (x + 312)
  have fu := FrU.tries (m := m) (ν := ν)
  generalize sF (cpW ν (m + 24) (m + 24) 0 2874 2874) 1244 m 2874 = ν2 at e5 q2 ft fu
  generalize cpS μ (x + 312) S = S2 at c1 t8 iv k0 k46 q2
  have g02 : gF ν2 1202 m = nI (nL N) := q2.g_l
  -- behind the cut
  have cutd : ∃ S3 μ3 ν3, ((if decide (l < nL N) = true then ((f8_cutLink (x + 312) (nI l) μ2).bind fun μ31 => some μ31) else (some μ2)) = some μ3) ∧ ((if (clt (nI l) (gF ν2 1202 m)) = true then ((f12_isCut m (nI l) ν2).bind fun μ32 => some μ32) else (some ν2)) = some ν3) ∧ CS N (x + 312) w μ3 μ3 S3 ∧ MS N m 2874 ν3 ν3 S3 ∧ INV N st S3 ∧ T8 S3 ∧ S3 44 0 = nI st ∧ S3 46 0 = 0 ∧ FrA x μ2 μ3 ∧ FrT m ν2 ν3 ∧ FrU m ν2 ν3 := by
    rw [g02, clt_nI (by omega) (by omega)]
    by_cases c : l < nL N
    · obtain ⟨μ3, e6, c6⟩ := C_cut c1 c
      obtain ⟨⟨ν3, e7, q7⟩, iv7, t7⟩ := R_cut q2 iv (t8.t0 nw) c
      rw [decide_eq_true c, if_pos rfl, if_pos rfl, e6, e7, obs, obs]
      exact ⟨sq_cut N l S2, μ3, ν3, rfl, rfl, c6.self, q7.self, iv7, cut_t8 nw c t8 t7, (cut_k nw (by omega)).trans k0, (cut_k nw (by omega)).trans k46, FrA.fc c6.c_fr, FrT.fm q7.2.2.2, FrU.fm q7.2.2.2⟩
    · rw [decide_eq_false c, if_neg (by decide), if_neg (by decide)]
      exact ⟨S2, μ2, ν2, rfl, rfl, c1, q2, iv, t8, k0, k46, FrA.rf, FrT.rf, FrU.rf⟩
  obtain ⟨S3, μ3, ν3, e6, e7, c3, q3, iv3, t83, k03, k463, fa3, ft3, fu3⟩ := cutd
  have fa4 := fa.tr fa3
  have ft4 := ft.tr ft3
  have f704 : gF μ3 704 (x + 17) = nI n := by rw [(fa4 (x + 17) (by omega) (by omega)).1]; exact h704
  have f53 : gF ν3 1253 m = nI n := by rw [ft4.1 1253 m (by omega) (by omega)]; exact h53
  obtain ⟨r, e8, h8⟩ := zloop_up (body := fun s => f7_findSuspects_L2 (x + 17) (x + 312) s.1 s.2) (fun i (μ : zM) => (nI i, μ)) (fun i μ1 => CS N (x + 312) w μ1 μ1 (stp N st i S3) ∧ FrA x μ3 μ1) n (fun r => CS N (x + 312) w r.2 r.2 (stp N st n S3) ∧ FrA x μ3 r.2) (by
    intro i μ1 hi ⟨hc, hf⟩
    obtain ⟨μ2, e2, h2⟩ := C_step hc (stp_0 k03 i) (by omega)
    refine ⟨μ2, ?_, h2.self, hf.tr (FrA.fc h2.c_fr)⟩
    show f7_findSuspects_L2 (x + 17) (x + 312) (nI i) μ1 = _
    unfold f7_findSuspects_L2
    rw [(hf (x + 17) (by omega) (by omega)).1, f704, clt_nI (by omega) (by omega), decide_eq_true hi, if_pos rfl, e2, obs, obs, nI_1]) (by
    intro μ1 ⟨hc, hf⟩
    refine ⟨(nI n, μ1), ?_, hc, hf⟩
    show f7_findSuspects_L2 (x + 17) (x + 312) (nI n) μ1 = _
    unfold f7_findSuspects_L2
    rw [(hf (x + 17) (by omega) (by omega)).1, f704, clt_nI (by omega) (by omega), decide_eq_false (by omega), if_neg (by decide)]) n 0 1000000 μ3 (by omega) (by omega) (by omega) ⟨c3, FrA.rf⟩
  obtain ⟨r', e9, h9⟩ := zloop_up (body := fun s => f12_laysSuspect_L1 m s.1 s.2) (fun i (ν : zM) => (nI i, ν)) (fun i ν1 => MS N m 2874 ν1 ν1 (stp N st i S3) ∧ FrT m ν3 ν1 ∧ FrU m ν3 ν1) n (fun r => MS N m 2874 r.2 r.2 (stp N st n S3) ∧ FrT m ν3 r.2 ∧ FrU m ν3 r.2) (by
    intro i ν1 hi ⟨hc, hf, hu⟩
    have ii := stp_i nw iv3 i
    obtain ⟨ν2, e2, q2⟩ := R_steps hc (stp_0 k03 i) (by omega) ii.1 ii.2.1
    refine ⟨ν2, ?_, q2.self, hf.tr (FrT.fm q2.2.2.2), hu.tr (FrU.fm q2.2.2.2)⟩
    show f12_laysSuspect_L1 m (nI i) ν1 = _
    unfold f12_laysSuspect_L1
    rw [hf.1 1253 m (by omega) (by omega), f53, clt_nI (by omega) (by omega), decide_eq_true hi, if_pos rfl, e2, obs, obs, nI_1]) (by
    intro ν1 ⟨hc, hf, hu⟩
    refine ⟨(nI n, ν1), ?_, hc, hf, hu⟩
    show f12_laysSuspect_L1 m (nI n) ν1 = _
    unfold f12_laysSuspect_L1
    rw [hf.1 1253 m (by omega) (by omega), f53, clt_nI (by omega) (by omega), decide_eq_false (by omega), if_neg (by decide)]) n 0 1000000 ν3 (by omega) (by omega) (by omega) ⟨q3, FrT.rf, FrU.rf⟩
  refine ⟨stp N st n S3, r.2, r'.2, fun K => ?_, fun K => ?_, h8.1, h9.1, fa4.tr h8.2, FZ.of h8.1 (stp_t8 nw t83) (by rw [stp_k nw (by omega)]; exact k463), ft4.tr h9.2.1, (fu.tr fu3).tr h9.2.2⟩
  · rw [e4, obs, e6, obs, show zloop (fun s => f7_findSuspects_L2 (x + 17) (x + 312) s.1 s.2) 1000000 (0, μ3) = some r from e8]
    rfl
  · rw [e5, obs, e7, obs, show zloop (fun s => f12_laysSuspect_L1 m s.1 s.2) 1000000 (0, ν3) = some r' from e9]
    rfl
/-- the rows seen: end and role -/
def ASk (N : zN) (x : Nat) (μ : zM) (X : zS) (k : Nat) : Prop := ∀ b p r, b < nB N → p < nP N b → gA μ (x + 18) (3 * k) = nI b → gA μ (x + 18) (3 * k + 1) = nI p → gA μ (x + 18) (3 * k + 2) = nI r → r < 5 → X 0 (eo N b p) = nI r
theorem C_seen {μb : zM} (hc : CS N (x + 312) w μ μ X) (sg : SG N x m μ ν) (h3 : gF μ 703 (x + 17) = nI c) (hc16 : c ≤ 16) : ∃ r, f7_isAsSeen (x + 17) (x + 312) μ = some r ∧ (r = true ↔ ∀ k, k < c → ASk N x μ X k) := by
  obtain ⟨c', n', c1, _, a3, a4, a5, a6, a7⟩ := sg
  have ec : c' = c := nI_inj (by omega) (by omega) (a3.symm.trans h3)
  subst ec
  have nw := hc.nw
  have key := lpX (body := fun s => f7_isAsSeen_L1 (x + 17) (x + 312) μ s) (fun i (_ : Unit) => nI (3 * i)) (fun i _ => ∀ k, k < i → ASk N x μ X k) c' (fun r => r = false ∧ ¬ ∀ k, k < c' → ASk N x μ X k) (fun _ => ∀ k, k < c' → ASk N x μ X k) (by
    intro i _ hi hq
    obtain ⟨b, p, r, hb, hp, hr, g1, g2, g3, _, _⟩ := a7 i hi
    have e28 := nw.eo_28 hb hp
    have st0 : f7_isAsSeen_L1 (x + 17) (x + 312) μ (nI (3 * i)) = if ceq (X 0 (eo N b p)) (nI r) = true then some (.inl (nI (3 * (i + 1)))) else some (.inr (.inl false)) := by
      unfold f7_isAsSeen_L1
      rw [a3, mulR3, clt_nI (by omega) (by omega), decide_eq_true (by omega), if_pos rfl, hc.c_wir, obs, show x + 17 + 1 = x + 18 by omega, rA_nI (by omega) (by omega), obs, nI_1, rA_nI (by omega) (by omega), obs, g1, g2, hc.w_eo hb hp, obs, rI_nI (by omega) (by omega), obs, addR2, rA_nI (by omega) (by omega), obs, g3, hc.r_role (by omega), obs, addR3]
      rw [show 3 * i + 3 = 3 * (i + 1) by omega]
    cases c5 : ceq (X 0 (eo N b p)) (nI r) with
    | true =>
      rw [c5, if_pos rfl] at st0
      refine Or.inl ⟨(), st0, fun k hk => ?_⟩
      by_cases ck : k = i
      · subst ck
        intro b' p' r' hb' hp' u1 u2 u3 u4
        have b6 := nw.b8
        have p6 := nw.p6 hb
        have p6' := nw.p6 hb'
        have x1 : b' = b := nI_inj (by omega) (by omega) (u1.symm.trans g1)
        subst x1
        have x2 : p' = p := nI_inj (by omega) (by omega) (u2.symm.trans g2)
        subst x2
        rw [← u3, g3]; exact ceq_of c5
      · exact hq k (by omega)
    | false =>
      rw [c5, if_neg (by decide)] at st0
      refine Or.inr ⟨false, st0, rfl, fun hall => ?_⟩
      have := hall i hi b p r hb hp g1 g2 g3 hr
      rw [this] at c5
      unfold ceq at c5
      exact absurd rfl (of_decide_eq_false c5)) (by
    intro _ hq
    refine ⟨nI (3 * c'), ?_, hq⟩
    show f7_isAsSeen_L1 (x + 17) (x + 312) μ (nI (3 * c')) = _
    unfold f7_isAsSeen_L1
    rw [a3, mulR3, clt_nI (by omega) (by omega), decide_eq_false (by omega), if_neg (by decide)]) c' 0 1000000 () (by omega) (by omega) (by omega) (fun k hk => absurd hk (by omega))
  unfold f7_isAsSeen
  rcases key with ⟨a, e1, rfl, h1⟩ | ⟨r, e1, h1⟩
  · refine ⟨false, ?_, fun h => absurd h (by decide), fun h => absurd h h1⟩
    rw [show zloop (fun s => f7_isAsSeen_L1 (x + 17) (x + 312) μ s) 1000000 0 = some (.inl false) from e1, obs]; rfl
  · refine ⟨true, ?_, fun _ => h1, fun _ => rfl⟩
    rw [show zloop (fun s => f7_isAsSeen_L1 (x + 17) (x + 312) μ s) 1000000 0 = some (.inr r) from e1, obs]; rfl
end zK1s
