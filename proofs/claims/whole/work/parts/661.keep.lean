/-! WHAT IS KEPT, both -/
section zL1
variable {N : zN} {x m w s B st top n k i f c p j b l t e P : Nat} {μ0 μ μ' μ1 ν0 ν ν' ν1 M : zM} {S S' X : zS}
theorem kp_fin (h : JJ N S st w x m top μ ν) {tp f' c' : Nat} (hM : ∀ a, a < top → a ≠ x → a ≠ x + 2 → SA a μ M) (hF : ∀ k, k ≠ 1114 → k ≠ 1115 → gF M k x = gF μ k x) (hR : ∀ k, gR M k x = gR μ k x)
    (g1 : gF M 1114 x = nI f') (g2 : gF M 1115 x = nI (c' + 1)) (f20 : f' < 20) (c20 : c' < 20) (g3 : gF ν' 1245 m = nI (c' + 1)) (hj : (f' + c') % 20 = j) (x1 : gX M (x + 2) j = some P) (x2 : ∀ i, i < 20 → i ≠ j → gX M (x + 2) i = gX μ (x + 2) i)
    (p1 : x + 573 ≤ P) (p2 : P + 261 ≤ tp) (p3 : FZ P M) (p4 : top ≤ tp) (d1 : ∀ i q, i < 20 → i ≠ j → gX μ (x + 2) i = some q → q + 261 ≤ P ∨ P + 261 ≤ q)
    (k1 : ∀ k, k < c' → (f' + k) % 20 ≠ j ∧ ∃ f0 k0, (f0 + k0) % 20 = (f' + k) % 20 ∧ PSk N x m w μ ν f0 k0 ∧ ∀ i, i < 2874 → gA ν' (m + 25) (2874 * k + i) = gA ν (m + 25) (2874 * k0 + i)) (k2 : ∀ i, i < 2874 → gA ν' (m + 25) (2874 * c' + i) = gA ν (m + 24) i)
    (n1 : ∀ k, k ≠ 1244 → k ≠ 1245 → gF ν' k m = gF ν k m) (n2 : ∀ k, gB ν' k m = gB ν k m) (n3 : ∀ a j, a ≠ m + 25 → gA ν' a j = gA ν a j) : ∃ μ', f8_copyFrom P (x + 51) M = some μ' ∧ JJ N S st w x m tp μ' ν' := by
  have hw := h.ww
  have nw := h.1.nw
  obtain ⟨⟨cs, wr, sw, m0, inv, s0, s9, t0, bg⟩, td, r5, fz, sg, fm, ps, ol, ht⟩ := h
  obtain ⟨hb, _⟩ := ps
  have csM : CS N (x + 51) w M M S := cs.mv (fun a h1 h2 => hM a (by omega) (by omega) (by omega)) (fun a h1 h2 => hM a (by omega) (by omega) (by omega))
  obtain ⟨μ', e, q⟩ := C_copy (t := P) csM (by omega) (by omega) p3.1
  have fr := q.c_fr
  have A : ∀ a, a < top → a ≠ x → a ≠ x + 2 → (a < P ∨ P + 261 ≤ a) → SA a μ μ' := fun a h1 h2 h3 h4 => (hM a h1 h2 h3).tr (fr a h4)
  have X0 : SA x M μ' := fr x (by omega)
  have X4 : SA (x + 2) M μ' := fr (x + 2) (by omega)
  have W := A w (by omega) (by omega) (by omega) (by omega)
  have ms := cp_ms (μ := M) (t := P) m0.b0 inv.2.1 (by rw [bg]; decide)
  have pb : PSb x tp μ' := by
    refine ⟨fun i q' hi hq => ?_, fun i i' q1 q2 hi hi' hn hq1 hq2 => ?_⟩
    · rw [X4.2.2.2.2.2] at hq
      by_cases c : i = j
      · subst c
        rw [x1] at hq
        have := Option.some.inj hq
        subst this
        refine ⟨p1, p2, fun i hi => q.c_num i hi, fun b hb => ?_, ?_⟩
        · rw [q.r_tch hb]
          show ceq (bI (gZ M (P + 9) b)) 1 = false
          rw [p3.2.1 b hb]; decide
        · rw [q.r_beg]
          show ceq (bI (gB M 817 P)) 1 = false
          rw [p3.2.2]; decide
      · rw [x2 i hi c] at hq
        obtain ⟨a1, a2, a3⟩ := hb.1 i q' hi hq
        have dd := d1 i q' hi c hq
        exact ⟨a1, by omega, a3.mv (fun a b1 b2 => A a (by omega) (by omega) (by omega) (by omega))⟩
    · rw [X4.2.2.2.2.2] at hq1 hq2
      by_cases c : i = j
      · subst c
        rw [x1] at hq1
        have := Option.some.inj hq1
        subst this
        rw [x2 i' hi' (by omega)] at hq2
        have dd := d1 i' q2 hi' (by omega) hq2
        omega
      · rw [x2 i hi c] at hq1
        by_cases c2 : i' = j
        · subst c2
          rw [x1] at hq2
          have := Option.some.inj hq2
          subst this
          have dd := d1 i q1 hi c hq1
          omega
        · rw [x2 i' hi' c2] at hq2
          exact hb.2 i i' q1 q2 hi hi' hn hq1 hq2
  refine ⟨μ', e, ⟨⟨csM.mv (fun a h1 h2 => fr a (by omega)) (fun a h1 h2 => fr a (by omega)), by rw [X0.2.2.1, hR]; exact wr, by rw [X0.2.2.1, hR]; exact sw, m0.mv (fun k h1 h2 => n1 k (by omega) (by omega)) (fun d j h1 h2 => n3 _ _ (by omega)) (fun j _ _ => n3 _ _ (by omega)) (fun j => n3 _ _ (by omega)) (fun j => n3 _ _ (by omega)), inv, s0, s9, t0, bg⟩, ⟨by rw [W.2.1, n2]; exact td.1, by rw [W.2.1]; exact td.2⟩, r5.mv (fun k hk => by rw [X0.1, hF k (by omega) (by omega)]) (fun a ha => A a (by omega) (by omega) (by omega) (by omega)) (fun k hk => n1 k (by omega) (by omega)) (fun a j ha => n3 a j (by omega)), fz.mv (fun a h1 h2 => A a (by omega) (by omega) (by omega) (by omega)), sg.mv (fun k hk => (A (x + 17) (by omega) (by omega) (by omega) (by omega)).1 k) (A (x + 18) (by omega) (by omega) (by omega) (by omega)) (n1 _ (by omega) (by omega)) (n1 _ (by omega) (by omega)) (fun j => n3 _ _ (by omega)) (fun j => n3 _ _ (by omega)), fm.mv (A _ (by omega) (by omega) (by omega) (by omega)) (fun k h1 h2 => n1 k (by omega) (by omega)) (n2 _), ⟨pb, f', c' + 1, f20, by omega, by rw [X0.1]; exact g1, by rw [X0.1]; exact g2, g3, fun k hk => ?_⟩, fun j hj => by rw [n3 _ _ (by omega)]; exact ol j hj, by omega⟩⟩
  by_cases ck : k < c'
  · obtain ⟨z1, f0, k0, z2, ⟨pk, Sk, stk, y1, y2, y3, y4, y5⟩, z4⟩ := k1 k ck
    have i20 : (f0 + k0) % 20 < 20 := by omega
    obtain ⟨b1, b2, b3⟩ := hb.1 _ pk i20 y1
    have dd := d1 _ pk i20 (by omega) y1
    refine ⟨pk, Sk, stk, by rw [X4.2.2.2.2.2, ← z2, x2 _ i20 (by omega)]; exact y1, y2.mv (fun a h1 h2 => A a (by omega) (by omega) (by omega) (by omega)) (fun a h1 h2 => A a (by omega) (by omega) (by omega) (by omega)), y3, ?_, y5⟩
    obtain ⟨R, r1, r2⟩ := y4
    exact ⟨R, fun i hi => by rw [z4 i hi]; exact r1 i hi, r2⟩
  · have : k = c' := by omega
    subst this
    refine ⟨P, cpS M P S, st, by rw [X4.2.2.2.2.2, hj]; exact x1, q.self, ms.2.1, ⟨rw_ m 0 (sF ν 1244 m 0), fun i hi => ?_, ms.1⟩, cp_inv inv, ?_, s9, (p3.t8).t0 nw, cp_46 p3.2.2⟩
    · rw [k2 i hi]
      unfold rw_
      rw [if_pos (by omega), Nat.zero_add]; rfl
    · rw [cp_f (by omega) (by omega) (by omega)]; exact s0
theorem kp_both (h : JJ N S st w x m top μ ν) : ∃ b μ' ν', f11_keepPast x top μ = some (b, μ') ∧ f12_remembers m ν = some ν' ∧ JJ N S st w x m (topN b top) μ' ν' ∧ gF ν' 1244 m = nI 0 := by
  have hw := h.ww
  obtain ⟨hb, f, c, f20, c20, a3, a4, a5, a6⟩ := h.2.2.2.2.2.2.1
  obtain ⟨ν', e1, n0, n5, n1, n2, n3, n4, n6⟩ := R_rem a5 c20
  -- the counters
  have hd : ∃ μ1 f' c', f11_keepPast x top μ = f11_kp2 x top (nI ((f + c) % 20)) μ1 ∧ (∀ a, a ≠ x → SA a μ μ1) ∧ (∀ k, k ≠ 1114 → k ≠ 1115 → gF μ1 k x = gF μ k x) ∧ (∀ k, gR μ1 k x = gR μ k x) ∧ gF μ1 1114 x = nI f' ∧ gF μ1 1115 x = nI (c' + 1) ∧ f' < 20 ∧ c' < 20 ∧ (f' + c') % 20 = (f + c) % 20 ∧ (if c = 20 then 20 else c + 1) = c' + 1 ∧ (if c = 20 then 19 else c) = c' ∧ ∀ k, k < c' → (f' + k) % 20 ≠ (f + c) % 20 ∧ (if c = 20 then k + 1 else k) < c ∧ (f + (if c = 20 then k + 1 else k)) % 20 = (f' + k) % 20 := by
    unfold f11_keepPast
    rw [a3, a4, nI_add, show (20 : Int32) = nI 20 from rfl, iRem_nI (by omega) (by omega) (by omega), obs, ceq_nI (by omega) (by omega)]
    by_cases cc : c = 20
    · rw [decide_eq_true cc, if_pos rfl, nI_1, iRem_nI (by omega) (by omega) (by omega), obs]
      refine ⟨sF μ 1114 x (nI ((f + 1) % 20)), (f + 1) % 20, 19, rfl, fun a ha => ⟨fun k => by rw [gF_sF, if_neg (by omega)], fun _ => rfl, fun _ => rfl, fun _ => rfl, fun _ => rfl, fun _ => rfl⟩, fun k h1 h2 => by rw [gF_sF, if_neg (by omega)], fun _ => rfl, by rw [gF_sF, if_pos ⟨rfl, rfl⟩], by rw [gF_sF, if_neg (by omega), a4, cc], by omega, by omega, by omega, by rw [if_pos cc], by rw [if_pos cc], fun k hk => ?_⟩
      rw [if_pos cc]
      exact ⟨by omega, by omega, by omega⟩
    · rw [decide_eq_false cc, if_neg (by decide), nI_1]
      refine ⟨sF μ 1115 x (nI (c + 1)), f, c, rfl, fun a ha => ⟨fun k => by rw [gF_sF, if_neg (by omega)], fun _ => rfl, fun _ => rfl, fun _ => rfl, fun _ => rfl, fun _ => rfl⟩, fun k h1 h2 => by rw [gF_sF, if_neg (by omega)], fun _ => rfl, by rw [gF_sF, if_neg (by omega)]; exact a3, by rw [gF_sF, if_pos ⟨rfl, rfl⟩], f20, by omega, rfl, by rw [if_neg cc], by rw [if_neg cc], fun k hk => ?_⟩
      rw [if_neg cc]
      exact ⟨by omega, by omega, rfl⟩
  obtain ⟨μ1, f', c', e2, sa, hF, hR, g1, g2, f20', c20', hj, q1, q2, q3⟩ := hd
  rw [q1] at n5
  rw [q2] at n4 n6
  have kk : ∀ k, k < c' → (f' + k) % 20 ≠ (f + c) % 20 ∧ ∃ f0 k0, (f0 + k0) % 20 = (f' + k) % 20 ∧ PSk N x m w μ ν f0 k0 ∧ ∀ i, i < 2874 → gA ν' (m + 25) (2874 * k + i) = gA ν (m + 25) (2874 * k0 + i) := fun k hk => by
    obtain ⟨z1, z2, z3⟩ := q3 k hk
    exact ⟨z1, f, _, z3, a6 _ z2, fun i hi => n6 k i hi hk⟩
  have j20 : (f + c) % 20 < 20 := by omega
  have x4 : ∀ i, gX μ1 (x + 2) i = gX μ (x + 2) i := fun i => (sa (x + 2) (by omega)).2.2.2.2.2 i
  rw [e2]
  unfold f11_kp2
  rw [rI_nI j20 (by omega), obs, x4]
  cases hg : gX μ (x + 2) ((f + c) % 20) with
  | some p =>
    obtain ⟨b1, b2, b3⟩ := hb.1 _ p j20 hg
    obtain ⟨μ', e3, hJ⟩ := kp_fin (P := p) (M := μ1) (tp := top) (ν' := ν') h (fun a _ h2 _ => sa a h2) hF hR g1 g2 f20' c20' n5 hj (by rw [x4]; exact hg) (fun i _ _ => x4 i) b1 b2 (b3.mv (fun a h1 h2 => sa a (by omega))) (Nat.le_refl _) (fun i q hi hn hq => hb.2 i _ q p hi j20 hn hq hg) kk n4 n1 n2 n3
    exact ⟨false, μ', ν', by show (f8_copyFrom p (x + 51) μ1).bind _ = _; rw [e3, obs], e1, hJ, n0⟩
  | none =>
    have wr : gR μ1 1111 x = some w := by rw [hR]; exact h.1.wr
    have ht := h.2.2.2.2.2.2.2.2
    have fzt : FZ top (sX (muP μ1 top w 261 13 8 28 84) (x + 2) ((f + c) % 20) (some top)) := by
      refine ⟨fun i hi => ?_, fun b hb => ?_, ?_⟩
      · rw [gF_sX, gF_mP, if_pos (by omega)]
        unfold fiP
        rw [if_pos (by omega)]
        exact congrArg nI (by omega)
      · rw [gZ_sX, gZ_mP, if_pos (by omega)]
      · rw [gB_sX, gB_mP, if_pos (by omega)]
    obtain ⟨μ', e3, hJ⟩ := kp_fin (P := top) (M := sX (muP μ1 top w 261 13 8 28 84) (x + 2) ((f + c) % 20) (some top)) (tp := top + 261) (ν' := ν') h (fun a h1 h2 h3 => (sa a h2).tr ⟨fun k => by rw [gF_sX, gF_mP, if_neg (by omega)], fun k => by rw [gB_sX, gB_mP, if_neg (by omega)], fun k => by rw [gR_sX, gR_mP, if_neg (by omega)], fun j => by rw [gA_sX, gA_mP, if_neg (by omega)], fun j => by rw [gZ_sX, gZ_mP, if_neg (by omega)], fun j => by rw [gX_sX, if_neg (by omega), gX_mP, if_neg (by omega)]⟩) (fun k h1 h2 => by rw [gF_sX, gF_mP, if_neg (by omega)]; exact hF k h1 h2) (fun k => by rw [gR_sX, gR_mP, if_neg (by omega)]; exact hR k) (by rw [gF_sX, gF_mP, if_neg (by omega)]; exact g1) (by rw [gF_sX, gF_mP, if_neg (by omega)]; exact g2) f20' c20' n5 hj (by rw [gX_sX, if_pos ⟨rfl, rfl⟩]) (fun i hi hn => by rw [gX_sX, if_neg (by omega), gX_mP, if_neg (by omega)]; exact x4 i) ht (Nat.le_refl _) fzt (by omega) (fun i q hi hn hq => Or.inl (hb.1 i q hi hq).2.1) kk n4 n1 n2 n3
    exact ⟨true, μ', ν', by show (gR μ1 1111 x).bind _ = _; rw [wr, obs, e3, obs], e1, hJ, n0⟩
/-- an act on what is now -/
theorem JJ.act {st' : Nat} (h : JJ N S st w x m top μ ν) (cs : CS N (x + 51) w μ μ' S') (ms : MS N m 0 ν ν' S') (iv : INV N st' S') (s0 : S' 44 0 = nI st') (s9 : st' ≤ 9999) (t0 : T0 N S') (bg : S' 46 0 = 0) : JJ N S' st' w x m top μ' ν' := by
  have hw := h.ww
  obtain ⟨⟨_, wr, sw, _, _⟩, td, r5, fz, sg, fm, ps, ol, ht⟩ := h
  have A : ∀ a, a < x + 51 ∨ x + 312 ≤ a → SA a μ μ' := fun a ha => cs.c_fr a (by omega)
  have fm2 := ms.2.2.2
  have F : ∀ k, gF ν' k m = gF ν k m := fun k => fm2.1 k m
  have Am : ∀ a j, a ≠ m + 24 → a ≠ m + 26 → a ≠ m + 27 → gA ν' a j = gA ν a j := fun a j h1 h2 h3 => fm2.2.2.2.1 a j (by omega) h2 h3
  have W := A w (by omega)
  have hx0 := A x (by omega)
  exact ⟨⟨cs.self, by rw [hx0.2.2.1]; exact wr, by rw [hx0.2.2.1]; exact sw, ms.row0, iv, s0, s9, t0, bg⟩, ⟨by rw [W.2.1, fm2.2.1]; exact td.1, by rw [W.2.1]; exact td.2⟩, r5.mv (fun k _ => hx0.1 k) (fun a ha => A a (by omega)) (fun k _ => F k) (fun a j ha => Am a j (by omega) (by omega) (by omega)), fz.mv (fun a h1 h2 => A a (by omega)), sg.mv (fun k _ => (A _ (by omega)).1 k) (A _ (by omega)) (F _) (F _) (fun j => Am _ _ (by omega) (by omega) (by omega)) (fun j => Am _ _ (by omega) (by omega) (by omega)), fm.mv (A _ (by omega)) (fun k _ _ => F k) (fm2.2.1 _ _), ps.mv hx0 (A _ (by omega)) (fun a ha => A a (by omega)) (fun a h1 h2 => A a (by omega)) (F _) (fun j => Am _ _ (by omega) (by omega) (by omega)), fun j hj => by rw [Am _ _ (by omega) (by omega) (by omega)]; exact ol j hj, ht⟩
end zL1
