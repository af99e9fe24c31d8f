/-! READING: own words; both -/
def wsL : List (List Nat) := [[110, 101, 116], [97, 103, 101], [100, 101, 108, 97, 121], [98, 114, 105, 100, 103, 101], [112, 114, 105, 111], [111, 108, 100], [108, 105, 110, 107], [101, 100, 103, 101], [116, 111], [99, 111, 115, 116], [116, 97, 107, 101, 115], [104, 111, 115, 116], [97, 116]]
def wln (k : Nat) : Nat := (wsL.getD k []).length
def wcd (k i : Nat) : Nat := (wsL.getD k []).getD i 0
def wof (k : Nat) : Nat := [0, 4, 8, 14, 21, 26, 30, 35, 40, 43, 48, 54, 59, 62].getD k 0
/-- the text from q to e is the own word k -/
def IsW (g : Nat → Nat) (q e k : Nat) : Prop := q + wln k = e ∧ ∀ i, i < wln k → g (q + i) = wcd k i
theorem w_len : ∀ k, k < 13 → (zStrs.getD k []).length = wln k ∧ wln k ≤ 6 ∧ 2 ≤ wln k := by decide
theorem w_chr : ∀ k, k < 13 → ∀ i, i < wln k → (zStrs.getD k []).getD i 0 = nI (wcd k i) ∧ 97 ≤ wcd k i ∧ wcd k i ≤ 122 := by decide
theorem w_own : ∀ k, k < 13 → ∀ i, i < wln k → ownL.getD (wof k + i) 0 = wcd k i - 96 := by decide
theorem w_end : ∀ k, k < 13 → ownL.getD (wof k + wln k) 0 = 0 ∧ wof (k + 1) = wof k + wln k + 1 ∧ wof k + wln k < 62 := by decide
theorem w_uni : ∀ k, k < 13 → ∀ k', k' < 13 → wln k = wln k' → (∀ i, i < wln k → wcd k i = wcd k' i) → k = k' := by decide
section zN2
variable {x m n p q e k i j a : Nat} {μ ν μ' ν' : zM} {g : Nat → Nat} {v v' : Int32}
theorem IsW.uni {k' : Nat} (hk : k < 13) (hk' : k' < 13) (h : IsW g q e k) (h' : IsW g q e k') : k = k' := by
  have e1 : wln k = wln k' := by have := h.1; have := h'.1; omega
  exact w_uni k hk k' hk' e1 (fun i hi => by rw [← h.2 i hi, ← h'.2 i (by omega)])
theorem nI_sub {a b : Nat} (h : b ≤ a) : nI a - nI b = nI (a - b) := by
  have : nI a = nI (a - b) + nI b := by rw [nI_add]; exact congrArg nI (by omega)
  rw [this, Int32.add_sub_cancel]
theorem C_isWL (t : TpC x n g μ) (hp : gF μ 503 (x + 49) = nI q) (hk : k < 13) (he : q + wln k ≤ n) : ∀ (d i F : Nat), wln k - i = d → i ≤ wln k → d < F → (zloop (fun s => f5_isWord_L1 (x + 49) k μ (nI (wln k)) s) F (nI i) = some (.inl false) ∧ ∃ j, j < wln k ∧ g (q + j) ≠ wcd k j) ∨ ((∃ r, zloop (fun s => f5_isWord_L1 (x + 49) k μ (nI (wln k)) s) F (nI i) = some (.inr r)) ∧ ∀ j, i ≤ j → j < wln k → g (q + j) = wcd k j) := by
  obtain ⟨t1, t2, t3⟩ := t
  obtain ⟨l1, l2, l3⟩ := w_len k hk
  intro d
  induction d with
  | zero =>
    intro i F h1 h2 h3
    have : i = wln k := by omega
    subst this
    refine Or.inr ⟨⟨nI (wln k), zloop_out h3 ?_⟩, fun j h1 h2 => absurd h2 (by omega)⟩
    unfold f5_isWord_L1
    rw [clt_nI (by omega) (by omega), decide_eq_false (by omega), if_neg (by decide)]
  | succ d ih =>
    intro i F h1 h2 h3
    cases F with
    | zero => omega
    | succ F =>
      obtain ⟨c1, c2, c3⟩ := w_chr k hk i (by omega)
      obtain ⟨e1, e2⟩ := t3 (q + i) (by omega)
      have body : f5_isWord_L1 (x + 49) k μ (nI (wln k)) (nI i) = if g (q + i) = wcd k i then some (.inl (nI (i + 1))) else some (.inr (.inl false)) := by
        unfold f5_isWord_L1 sChr
        rw [clt_nI (by omega) (by omega), decide_eq_true (by omega), if_pos rfl, hp, nI_add, show x + 49 - 48 = x + 1 by omega, rA_nI (by omega) (by omega), e1, obs, l1, rI_nI (by omega) (by omega), obs, obs, c1, ceq_nI (by omega) (by omega)]
        by_cases c : g (q + i) = wcd k i
        · rw [decide_eq_true c, if_pos rfl, if_pos c, obs, nI_1]
        · rw [decide_eq_false c, if_neg (by decide), if_neg c]
      by_cases c : g (q + i) = wcd k i
      · rw [if_pos c] at body
        rcases ih (i + 1) F (by omega) (by omega) (by omega) with ⟨f1, f2⟩ | ⟨⟨r, f1⟩, f2⟩
        · exact Or.inl ⟨zl_in2 body f1, f2⟩
        · refine Or.inr ⟨⟨r, zl_in2 body f1⟩, fun j j1 j2 => ?_⟩
          by_cases z : j = i
          · rw [z]; exact c
          · exact f2 j (by omega) j2
      · rw [if_neg c] at body
        exact Or.inl ⟨zloop_out (by omega) body, i, by omega, c⟩
theorem C_isW (t : TpC x n g μ) (w : WE g n q e) (hp : gF μ 503 (x + 49) = nI q) (hk : k < 13) : (IsW g q e k ∧ f5_isWord (x + 49) k μ = some true) ∨ (¬ IsW g q e k ∧ f5_isWord (x + 49) k μ = some false) := by
  obtain ⟨l1, l2, l3⟩ := w_len k hk
  have w1 := w.1
  have w2 := w.2.1
  have t1 := t.1
  unfold f5_isWord sLen
  rw [C_wend t w hp, l1, hp, show Int32.ofNat (wln k) = nI (wln k) from rfl, obs, obs, nI_sub w1, ceq_nI (by omega) (by omega)]
  by_cases c : e - q = wln k
  · rw [decide_eq_true c, if_pos rfl]
    rcases C_isWL t hp hk (by omega) (wln k) 0 1000000 (by omega) (by omega) (by omega) with ⟨f1, j, f2, f3⟩ | ⟨⟨r, f1⟩, f2⟩
    · rw [show zloop (fun s => f5_isWord_L1 (x + 49) k μ (nI (wln k)) s) 1000000 0 = _ from f1]
      exact Or.inr ⟨fun z => f3 (z.2 j f2), rfl⟩
    · rw [show zloop (fun s => f5_isWord_L1 (x + 49) k μ (nI (wln k)) s) 1000000 0 = _ from f1]
      exact Or.inl ⟨⟨by omega, fun i hi => f2 i (by omega) hi⟩, rfl⟩
  · rw [decide_eq_false c, if_neg (by decide)]
    exact Or.inr ⟨fun z => c (by have := z.1; omega), rfl⟩
/-- the prefix of the own word k that the reference finds -/
theorem R_own2 (t : TpR m n g ν) (ol : OL m ν) (w : WE g n q e) (h8 : gF ν 1238 m = nI q) (h7 : gF ν 1237 m = nI e) (hk : k < 13) : ∀ (d i F : Nat), wln k - i = d → i ≤ wln k → d < F → (∀ j, j < i → q + j < e ∧ g (q + j) = wcd k j) → ∃ r, r ≤ wln k ∧ zloop (fun s => f12_own_L2 m ν (nI (wof k)) s) F (nI i) = some (nI r) ∧ (∀ j, j < r → q + j < e ∧ g (q + j) = wcd k j) ∧ (r = wln k ∨ ¬ (q + r < e ∧ g (q + r) = wcd k r)) := by
  obtain ⟨l1, l2, l3⟩ := w_len k hk
  obtain ⟨z1, z2, z3⟩ := w_end k hk
  have w1 := w.1
  have w2 := w.2.1
  have t1 := t.1
  intro d
  induction d with
  | zero =>
    intro i F h1 h2 h3 h4
    have : i = wln k := by omega
    subst this
    refine ⟨wln k, Nat.le_refl _, zloop_out h3 ?_, h4, Or.inl rfl⟩
    unfold f12_own_L2
    rw [nI_add, rA_nI (by omega) (by omega), ol _ (by omega), z1]
    rfl
  | succ d ih =>
    intro i F h1 h2 h3 h4
    cases F with
    | zero => omega
    | succ F =>
      obtain ⟨c1, c2, c3⟩ := w_chr k hk i (by omega)
      have o := w_own k hk i (by omega)
      have body : f12_own_L2 m ν (nI (wof k)) (nI i) = if q + i < e ∧ g (q + i) = wcd k i then some (.inl (nI (i + 1))) else some (.inr (nI i)) := by
        unfold f12_own_L2
        rw [nI_add, rA_nI (by omega) (by omega), ol _ (by omega), o, h8, h7, nI_add, clt_nI (by omega) (by omega)]
        simp only [obs]
        rw [show ceq (nI (wcd k i - 96)) 0 = false from by rw [show (0 : Int32) = nI 0 from rfl, ceq_nI (by omega) (by omega), decide_eq_false (by omega)], Bool.not_false, if_pos rfl, obs]
        by_cases c : q + i < e
        · have sm := w.2.2.1 (q + i) (by omega) c
          obtain ⟨e1, e2⟩ := t.2.2 (q + i) (by omega)
          rw [decide_eq_true c, if_pos rfl, rA_nI (by omega) (by omega), e1, obs, obs, show nI (g (q + i)) - 96 = nI (g (q + i) - 96) from nI_sub (b := 96) (by unfold sml at sm; omega), ceq_nI (by omega) (by omega)]
          by_cases c4 : g (q + i) = wcd k i
          · rw [decide_eq_true (by omega), if_pos (show q + i < e ∧ g (q + i) = wcd k i from ⟨c, c4⟩), if_pos rfl, nI_1]
          · rw [decide_eq_false (by unfold sml at sm; omega), if_neg (show ¬ (q + i < e ∧ g (q + i) = wcd k i) from fun z => c4 z.2), if_neg (by decide)]
        · rw [decide_eq_false c, if_neg (show ¬ (q + i < e ∧ g (q + i) = wcd k i) from fun z => c z.1)]; rfl
      by_cases c : q + i < e ∧ g (q + i) = wcd k i
      · rw [if_pos c] at body
        obtain ⟨r, r1, r2, r3, r4⟩ := ih (i + 1) F (by omega) (by omega) (by omega) (fun j hj => by
          by_cases z : j = i
          · rw [z]; exact c
          · exact h4 j (by omega))
        exact ⟨r, r1, zl_in2 body r2, r3, r4⟩
      · rw [if_neg c] at body
        exact ⟨i, h2, zloop_out (by omega) body, h4, Or.inr c⟩
theorem R_own3 (ol : OL m ν) (hk : k < 13) : ∀ (d i F : Nat), wln k - i = d → i ≤ wln k → d < F → zloop (fun s => f12_own_L3 m ν s) F (nI (wof k + i)) = some (nI (wof k + wln k)) := by
  obtain ⟨l1, l2, l3⟩ := w_len k hk
  obtain ⟨z1, z2, z3⟩ := w_end k hk
  intro d
  induction d with
  | zero =>
    intro i F h1 h2 h3
    have : i = wln k := by omega
    subst this
    refine zloop_out h3 ?_
    unfold f12_own_L3
    rw [rA_nI (by omega) (by omega), ol _ (by omega), z1]
    rfl
  | succ d ih =>
    intro i F h1 h2 h3
    cases F with
    | zero => omega
    | succ F =>
      obtain ⟨c1, c2, c3⟩ := w_chr k hk i (by omega)
      have o := w_own k hk i (by omega)
      refine zl_in2 (y := nI (wof k + (i + 1))) ?_ (ih (i + 1) F (by omega) (by omega) (by omega))
      unfold f12_own_L3
      rw [rA_nI (by omega) (by omega), ol _ (by omega), o, obs, show ceq (nI (wcd k i - 96)) 0 = false from by rw [show (0 : Int32) = nI 0 from rfl, ceq_nI (by omega) (by omega), decide_eq_false (by omega)], if_neg (by decide), obs, nI_1]
      rfl
theorem R_ownL (t : TpR m n g ν) (ol : OL m ν) (w : WE g n q e) (h8 : gF ν 1238 m = nI q) (h7 : gF ν 1237 m = nI e) : ∀ (d k F : Nat), 13 - k = d → k ≤ 13 → d < F → (∀ k', k' < k → ¬ IsW g q e k') → (∃ r, r < 13 ∧ IsW g q e r ∧ zloop (fun s => f12_own_L1 m ν s.1 s.2) F (nI (wof k), nI k) = some (.inl (nI r))) ∨ ((∀ r, r < 13 → ¬ IsW g q e r) ∧ ∃ r, zloop (fun s => f12_own_L1 m ν s.1 s.2) F (nI (wof k), nI k) = some (.inr r)) := by
  have w1 := w.1
  have w2 := w.2.1
  have t1 := t.1
  intro d
  induction d with
  | zero =>
    intro k F h1 h2 h3 h4
    have : k = 13 := by omega
    subst this
    exact Or.inr ⟨h4, (nI 62, nI 13), zloop_out h3 rfl⟩
  | succ d ih =>
    intro k F h1 h2 h3 h4
    have hk : k < 13 := by omega
    obtain ⟨l1, l2, l3⟩ := w_len k hk
    obtain ⟨z1, z2, z3⟩ := w_end k hk
    obtain ⟨r, r1, r2, r3, r4⟩ := R_own2 t ol w h8 h7 hk (wln k) 0 1000000 (by omega) (by omega) (by omega) (fun j hj => absurd hj (by omega))
    have q3 := R_own3 ol hk (wln k) 0 1000000 (by omega) (by omega) (by omega)
    rw [Nat.add_zero] at q3
    have chk : (ownL.getD (wof k + r) 0 = 0 ∧ q + r = e) ↔ IsW g q e k := by
      constructor
      · rintro ⟨a1, a2⟩
        have : r = wln k := by
          by_cases c : r = wln k
          · exact c
          · have := w_own k hk r (by omega)
            have := (w_chr k hk r (by omega)).2.1
            omega
        subst this
        exact ⟨a2, fun i hi => (r3 i hi).2⟩
      · rintro ⟨a1, a2⟩
        have : r = wln k := by
          rcases r4 with r4 | r4
          · exact r4
          · by_cases c : r = wln k
            · exact c
            · exact absurd ⟨by omega, a2 r (by omega)⟩ r4
        subst this
        exact ⟨z1, a1⟩
    have ob : ownL.getD (wof k + r) 0 < 27 := by
      by_cases c : r = wln k
      · rw [c, z1]; omega
      · rw [w_own k hk r (by omega)]
        have := (w_chr k hk r (by omega)).2.2
        omega
    cases F with
    | zero => omega
    | succ F =>
      have body : f12_own_L1 m ν (nI (wof k)) (nI k) = if ownL.getD (wof k + r) 0 = 0 ∧ q + r = e then some (.inr (.inl (nI k))) else some (.inl (nI (wof (k + 1)), nI (k + 1))) := by
        unfold f12_own_L1
        rw [show clt (nI (wof k)) 62 = true from by rw [show (62 : Int32) = nI 62 from rfl, clt_nI (by omega) (by omega), decide_eq_true (by omega)], if_pos rfl, show zloop (fun s => f12_own_L2 m ν (nI (wof k)) s) 1000000 0 = _ from r2, obs, nI_add, rA_nI (by omega) (by omega), ol _ (by omega), obs, obs, h8, h7, nI_add, q3, show ceq (nI (ownL.getD (wof k + r) 0)) 0 = decide (ownL.getD (wof k + r) 0 = 0) from ceq_nI (b := 0) (by omega) (by omega), ceq_nI (by omega) (by omega), if_and, obs, obs, obs, obs, nI_1, nI_1, z2]
        by_cases c : ownL.getD (wof k + r) 0 = 0 ∧ q + r = e
        · rw [decide_eq_true c.1, decide_eq_true c.2, if_pos (show (true && true) = true from rfl), if_pos c]
        · rw [if_neg c]
          by_cases c1 : ownL.getD (wof k + r) 0 = 0
          · rw [decide_eq_false (show ¬ q + r = e from fun z => c ⟨c1, z⟩), Bool.and_false, if_neg (by decide)]
          · rw [decide_eq_false c1, Bool.false_and, if_neg (by decide)]
      by_cases c : ownL.getD (wof k + r) 0 = 0 ∧ q + r = e
      · rw [if_pos c] at body
        exact Or.inl ⟨k, hk, chk.mp c, zloop_out (by omega) body⟩
      · rw [if_neg c] at body
        have nk : ∀ k', k' < k + 1 → ¬ IsW g q e k' := fun k' hk' => by
          by_cases z : k' = k
          · rw [z]; exact fun y => c (chk.mpr y)
          · exact h4 k' (by omega)
        rcases ih (k + 1) F (by omega) (by omega) (by omega) nk with ⟨s, s1, s2, s3⟩ | ⟨s1, s, s2⟩
        · exact Or.inl ⟨s, s1, s2, zl_in2 (body := fun s => f12_own_L1 m ν s.1 s.2) body s3⟩
        · exact Or.inr ⟨s1, s, zl_in2 (body := fun s => f12_own_L1 m ν s.1 s.2) body s2⟩
/-- the own word that the reference reads, or none -/
theorem R_own (t : TpR m n g ν) (ol : OL m ν) (w : WE g n q e) (h8 : gF ν 1238 m = nI q) (h7 : gF ν 1237 m = nI e) : (∃ r, r < 13 ∧ IsW g q e r ∧ f12_own m ν = some (nI r)) ∨ ((∀ r, r < 13 → ¬ IsW g q e r) ∧ f12_own m ν = some (-1)) := by
  unfold f12_own
  rcases R_ownL t ol w h8 h7 13 0 1000000 (by omega) (by omega) (by omega) (fun k' hk' => absurd hk' (by omega)) with ⟨r, r1, r2, r3⟩ | ⟨r1, r, r2⟩
  · rw [show zloop (fun s => f12_own_L1 m ν s.1 s.2) 1000000 (0, 0) = _ from r3]
    exact Or.inl ⟨r, r1, r2, rfl⟩
  · rw [show zloop (fun s => f12_own_L1 m ν s.1 s.2) 1000000 (0, 0) = _ from r2]
    exact Or.inr ⟨r1, rfl⟩
end zN2
