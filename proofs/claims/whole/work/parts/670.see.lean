/-! A SIGHT TOLD, both -/
section zM0
variable {N : zN} {x m w s B st top n k i f c p j b l t e P h : Nat} {μ0 μ μ' μ1 ν0 ν ν' ν1 M : zM} {S S' S1 X : zS} {v : Int32}
theorem JJ.sgt (h : JJ N S st w x m top μ ν) (A : ∀ a, a ≠ x + 17 → a ≠ x + 18 → SA a μ μ') (F : ∀ k, k ≠ 1252 → k ≠ 1253 → gF ν' k m = gF ν k m) (Bf : ∀ k, gB ν' k m = gB ν k m) (Am : ∀ a j, a ≠ m + 31 → a ≠ m + 32 → gA ν' a j = gA ν a j) (sg : SG N x m μ' ν') : JJ N S st w x m top μ' ν' := by
  have hw := h.ww
  obtain ⟨⟨cs, wr, sw, m0, inv, s0, s9, t0, bg⟩, td, r5, fz, _, fm, ps, ol, ht⟩ := h
  have W := A w (by omega) (by omega)
  have hx0 := A x (by omega) (by omega)
  exact ⟨⟨cs.mv (fun a h1 h2 => A a (by omega) (by omega)) (fun a h1 h2 => A a (by omega) (by omega)), by rw [hx0.2.2.1]; exact wr, by rw [hx0.2.2.1]; exact sw, m0.mv (fun k h1 h2 => F k (by omega) (by omega)) (fun d j h1 h2 => Am _ _ (by omega) (by omega)) (fun j _ _ => Am _ _ (by omega) (by omega)) (fun j => Am _ _ (by omega) (by omega)) (fun j => Am _ _ (by omega) (by omega)), inv, s0, s9, t0, bg⟩, ⟨by rw [W.2.1, Bf]; exact td.1, by rw [W.2.1]; exact td.2⟩, r5.mv (fun k _ => hx0.1 k) (fun a ha => A a (by omega) (by omega)) (fun k hk => F k (by omega) (by omega)) (fun a j ha => Am a j (by omega) (by omega)), fz.mv (fun a h1 h2 => A a (by omega) (by omega)), sg, fm.mv (A _ (by omega) (by omega)) (fun k h1 h2 => F k (by omega) (by omega)) (Bf _), ps.mv hx0 (A _ (by omega) (by omega)) (fun a ha => A a (by omega) (by omega)) (fun a h1 h2 => A a (by omega) (by omega)) (F _ (by omega) (by omega)) (fun j => Am _ _ (by omega) (by omega)), fun j hj => by rw [Am _ _ (by omega) (by omega)]; exact ol j hj, ht⟩
theorem isP2 (h : JJ N S st w x m top μ ν) (b p : Int32) : (∃ b' p', b' < nB N ∧ p' < nP N b' ∧ b = nI b' ∧ p = nI p' ∧ f10_isPort w b p μ = some true ∧ f12_isPort m b p ν = some true) ∨ (f10_isPort w b p μ = some false ∧ f12_isPort m b p ν = some false) := by
  have e : f12_isPort m b p ν = f12_isPort m b p (sF ν 1244 m 0) := by
    unfold f12_isPort f12_isBridge
    rw [gF_sF, if_neg (by omega)]
    rfl
  rw [e]
  exact isP_in h.1.cs h.b0 b p
/-- one thing seen is one that can be -/
def oks (N : zN) (μ : zM) (x k : Nat) : Prop := ∃ b p r, b < nB N ∧ p < nP N b ∧ r < 5 ∧ gA μ (x + 1) (3 * k) = nI b ∧ gA μ (x + 1) (3 * k + 1) = nI p ∧ gA μ (x + 1) (3 * k + 2) = nI r
theorem sgt1 (h : JJ N S st w x m top μ ν) (hk : k < c) (hc : c ≤ 16) : (oks N μ x k ∧ f11_isSight_L1 x (nI (3 * c)) μ (nI (3 * k)) = some (.inl (nI (3 * (k + 1)))) ∧ f12_see_L1 m (nI (3 * c)) ν true (nI (3 * k)) = some (.inl (true, nI (3 * (k + 1))))) ∨ (f11_isSight_L1 x (nI (3 * c)) μ (nI (3 * k)) = some (.inr (.inl false)) ∧ f12_see_L1 m (nI (3 * c)) ν true (nI (3 * k)) = some (.inl (false, nI (3 * (k + 1))))) := by
  have t4 := h.2.2.1.1.2
  have e0 := (t4 (3 * k) (by omega)).1
  have e1 := (t4 (3 * k + 1) (by omega)).1
  obtain ⟨e2, r, r256, er⟩ := t4 (3 * k + 2) (by omega)
  have z3 : nI (3 * k) + 3 = nI (3 * (k + 1)) := by rw [show (3 : Int32) = nI 3 from rfl, nI_add]; exact congrArg nI (by omega)
  have z2 : nI (3 * k) + 2 = nI (3 * k + 2) := by rw [show (2 : Int32) = nI 2 from rfl, nI_add]
  unfold f11_isSight_L1 f12_see_L1
  rw [h.1.wr, obs, clt_nI (by omega) (by omega), decide_eq_true (show 3 * k < 3 * c by omega), if_pos rfl, Bool.and_self, if_pos rfl, nI_1, z2, rA_nI (by omega) (by omega), rA_nI (by omega) (by omega), rA_nI (by omega) (by omega), rA_nI (by omega) (by omega), rA_nI (by omega) (by omega), rA_nI (by omega) (by omega), e0, e1, e2, er]
  simp only [obs, z3]
  rcases isP2 h (gA ν (m + 21) (3 * k)) (gA ν (m + 21) (3 * k + 1)) with ⟨b, p, hb, hp, e3, e4, e5, e6⟩ | ⟨e5, e6⟩
  · rw [e5, e6]
    simp only [obs, Bool.not_true, Bool.false_eq_true, ↓reduceIte]
    rw [show clt (nI r) 5 = decide (r < 5) from clt_nI (b := 5) (by omega) (by omega), show clt 4 (nI r) = decide (4 < r) from clt_nI (a := 4) (by omega) (by omega)]
    by_cases cr : r < 5
    · rw [decide_eq_true cr, decide_eq_false (show ¬ 4 < r by omega)]
      exact Or.inl ⟨⟨b, p, r, hb, hp, cr, e0.trans e3, e1.trans e4, e2.trans er⟩, rfl, rfl⟩
    · rw [decide_eq_false cr, decide_eq_true (show 4 < r by omega)]
      exact Or.inr ⟨rfl, rfl⟩
  · rw [e5, e6]
    exact Or.inr ⟨rfl, rfl⟩
theorem sgtL (h : JJ N S st w x m top μ ν) (hc : c ≤ 16) : ∀ (d i F : Nat), c - i = d → i ≤ c → d + 1 < F → (zloop (fun s => f11_isSight_L1 x (nI (3 * c)) μ s) F (nI (3 * i)) = some (.inl false) ∧ ∃ k', zloop (fun s => f12_see_L1 m (nI (3 * c)) ν s.1 s.2) F (true, nI (3 * i)) = some (false, k')) ∨ (zloop (fun s => f11_isSight_L1 x (nI (3 * c)) μ s) F (nI (3 * i)) = some (.inr (nI (3 * c))) ∧ zloop (fun s => f12_see_L1 m (nI (3 * c)) ν s.1 s.2) F (true, nI (3 * i)) = some (true, nI (3 * c)) ∧ ∀ k, i ≤ k → k < c → oks N μ x k) := by
  intro d
  induction d with
  | zero =>
    intro i F h1 h2 h3
    have : i = c := by omega
    subst this
    refine Or.inr ⟨zloop_out (by omega) ?_, zloop_out (by omega) ?_, fun k h1 h2 => absurd h1 (by omega)⟩
    · unfold f11_isSight_L1
      rw [clt_nI (by omega) (by omega), decide_eq_false (by omega), if_neg (by decide)]
    · show f12_see_L1 m (nI (3 * i)) ν true (nI (3 * i)) = _
      unfold f12_see_L1
      rw [clt_nI (by omega) (by omega), decide_eq_false (by omega), if_neg (by decide)]
  | succ d ih =>
    intro i F h1 h2 h3
    cases F with
    | zero => omega
    | succ F =>
      rcases sgt1 (k := i) (c := c) h (by omega) hc with ⟨o, e1, e2⟩ | ⟨e1, e2⟩
      · rcases ih (i + 1) F (by omega) (by omega) (by omega) with ⟨f1, k', f2⟩ | ⟨f1, f2, f3⟩
        · exact Or.inl ⟨zl_in2 e1 f1, k', zl_in2 (body := fun s => f12_see_L1 m (nI (3 * c)) ν s.1 s.2) e2 f2⟩
        · refine Or.inr ⟨zl_in2 e1 f1, zl_in2 (body := fun s => f12_see_L1 m (nI (3 * c)) ν s.1 s.2) e2 f2, fun k k1 k2 => ?_⟩
          by_cases z : k = i
          · subst z; exact o
          · exact f3 k (by omega) k2
      · refine Or.inl ⟨zloop_out (by omega) e1, nI (3 * (i + 1)), zl_in2 (body := fun s => f12_see_L1 m (nI (3 * c)) ν s.1 s.2) e2 (zloop_out (by omega) ?_)⟩
        show f12_see_L1 m (nI (3 * c)) ν false (nI (3 * (i + 1))) = _
        unfold f12_see_L1
        rw [Bool.false_and, if_neg (by decide)]
theorem fJ_c0 {a d an dn : Nat} (h1 : n ≤ an) (h2 : n ≤ dn) (h3 : n < 2 ^ 31) : fJ_copy a an 0 d dn 0 (nI n) μ = some (copyA μ a d 0 0 n) := by
  unfold fJ_copy
  rw [nI_clamp h3, show (0 : Int32).toNatClampNeg = 0 from rfl, if_neg]
  intro z
  rcases z with z | z | z | z | z
  · exact absurd z (by decide)
  · exact absurd z (by decide)
  · exact nI_nn h3 z
  · omega
  · omega
/-- what the reference lays down of a sight -/
theorem R_see2 (e : gF ν 1252 m = nI c) (hc : c ≤ 16) : ∃ ν', zloop (fun s => f12_see_L2 m s.1 s.2) 1000000 (0, ν) = some (nI c, ν') ∧ (∀ k a, gF ν' k a = gF ν k a) ∧ (∀ k a, gB ν' k a = gB ν k a) ∧ (∀ a j, a ≠ m + 31 → a ≠ m + 32 → gA ν' a j = gA ν a j) ∧ ∀ k, k < c → gA ν' (m + 31) k = 6 * gA ν (m + 21) (3 * k) + gA ν (m + 21) (3 * k + 1) ∧ gA ν' (m + 32) k = gA ν (m + 21) (3 * k + 2) := by
  obtain ⟨r, e1, h1⟩ := zloop_up (body := fun s => f12_see_L2 m s.1 s.2) (fun i (ν : zM) => (nI i, ν)) (fun i ν' => (∀ k a, gF ν' k a = gF ν k a) ∧ (∀ k a, gB ν' k a = gB ν k a) ∧ (∀ a j, a ≠ m + 31 → a ≠ m + 32 → gA ν' a j = gA ν a j) ∧ ∀ k, k < i → gA ν' (m + 31) k = 6 * gA ν (m + 21) (3 * k) + gA ν (m + 21) (3 * k + 1) ∧ gA ν' (m + 32) k = gA ν (m + 21) (3 * k + 2)) c (fun r => r.1 = nI c ∧ (∀ k a, gF r.2 k a = gF ν k a) ∧ (∀ k a, gB r.2 k a = gB ν k a) ∧ (∀ a j, a ≠ m + 31 → a ≠ m + 32 → gA r.2 a j = gA ν a j) ∧ ∀ k, k < c → gA r.2 (m + 31) k = 6 * gA ν (m + 21) (3 * k) + gA ν (m + 21) (3 * k + 1) ∧ gA r.2 (m + 32) k = gA ν (m + 21) (3 * k + 2)) (by
    rintro i ν1 hi ⟨p1, p2, p3, p4⟩
    refine ⟨sA (sA ν1 (m + 31) i (6 * gA ν (m + 21) (3 * i) + gA ν (m + 21) (3 * i + 1))) (m + 32) i (gA ν (m + 21) (3 * i + 2)), ?_, p1, p2, fun a j h1 h2 => by rw [gA_sA, if_neg (by omega), gA_sA, if_neg (by omega)]; exact p3 a j h1 h2, fun k hk => ?_⟩
    · show f12_see_L2 m (nI i) ν1 = _
      have z3 : (3 : Int32) * nI i = nI (3 * i) := by rw [show (3 : Int32) = nI 3 from rfl, pk_mul]
      unfold f12_see_L2 f12_placeOf
      rw [p1, e, clt_nI (by omega) (by omega), decide_eq_true hi, if_pos rfl, z3, nI_1, rA_nI (by omega) (by omega), rA_nI (by omega) (by omega), p3 _ _ (by omega) (by omega), p3 _ _ (by omega) (by omega)]
      simp only [obs]
      rw [wA_nI (by omega) (by omega), obs, show nI (3 * i) + 2 = nI (3 * i + 2) from nI_add _ 2, rA_nI (by omega) (by omega), gA_sA, if_neg (by omega), p3 _ _ (by omega) (by omega), obs, wA_nI (by omega) (by omega), obs, nI_1]
    · rw [gA_sA, if_neg (by omega), gA_sA, gA_sA]
      by_cases ck : k = i
      · rw [if_pos ⟨rfl, ck⟩, if_pos ⟨rfl, ck⟩, ck]; exact ⟨rfl, rfl⟩
      · rw [if_neg (by omega), if_neg (by omega), gA_sA, if_neg (by omega)]; exact p4 k (by omega)) (by
    rintro ν1 ⟨p1, p2, p3, p4⟩
    refine ⟨(nI c, ν1), ?_, rfl, p1, p2, p3, p4⟩
    show f12_see_L2 m (nI c) ν1 = _
    unfold f12_see_L2
    rw [p1, e, clt_nI (by omega) (by omega), decide_eq_false (by omega), if_neg (by decide)]) c 0 1000000 ν (by omega) (by omega) (by omega) ⟨fun _ _ => rfl, fun _ _ => rfl, fun _ _ _ _ => rfl, fun k hk => absurd hk (by omega)⟩
  obtain ⟨r1, r2⟩ := r
  obtain ⟨rfl, h2⟩ := h1
  exact ⟨r2, e1, h2⟩
end zM0
