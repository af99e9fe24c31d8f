/-! READING: a name among those told, both -/
def b6 (T V : Nat → Int32) (k : Nat) : Bool := (List.range 6).all (fun i => decide (T (6 * k + i) = V i))
theorem b6_iff {T V : Nat → Int32} {k : Nat} : b6 T V k = true ↔ ∀ i, i < 6 → T (6 * k + i) = V i := by
  unfold b6
  rw [List.all_eq_true]
  constructor
  · intro h i hi; exact of_decide_eq_true (h i (List.mem_range.mpr hi))
  · intro h i hi; exact decide_eq_true (h i (List.mem_range.mp hi))
theorem bb_eq {a b : Bool} (h : a = true ↔ b = true) : a = b := by
  cases a <;> cases b
  · rfl
  · exact absurd (h.mpr rfl) (by decide)
  · exact absurd (h.mp rfl) (by decide)
  · rfl
/-- the first k of c for which P holds, or -1 -/
def fnN (P : Nat → Bool) : Nat → Nat → Int32
  | 0, _ => -1
  | d + 1, k => if P k = true then nI k else fnN P d (k + 1)
section zNc
variable {x m n p q e k i j a z r c f0 : Nat} {μ ν μ' ν' μ1 ν1 : zM} {g : Nat → Nat} {v v' l : Int32} {T V T' V' : Nat → Int32} {P Q : Nat → Bool}
theorem b6_c (h1 : ∀ i, i < 6 → T (6 * k + i) = T' (6 * k + i)) (h2 : ∀ i, i < 6 → V i = V' i) : b6 T V k = b6 T' V' k := by
  refine bb_eq ?_
  rw [b6_iff, b6_iff]
  constructor
  · intro h i hi; rw [← h1 i hi, ← h2 i hi]; exact h i hi
  · intro h i hi; rw [h1 i hi, h2 i hi]; exact h i hi
theorem fnN_c : ∀ (d k : Nat), (∀ j, k ≤ j → j < k + d → P j = Q j) → fnN P d k = fnN Q d k
  | 0, _, _ => rfl
  | d + 1, k, h => by
    show (if P k = true then nI k else fnN P d (k + 1)) = (if Q k = true then nI k else fnN Q d (k + 1))
    rw [h k (Nat.le_refl _) (by omega), fnN_c d (k + 1) (fun j j1 j2 => h j (by omega) (by omega))]
theorem fnN_or : ∀ (d k : Nat), fnN P d k = -1 ∨ ∃ j, j < k + d ∧ fnN P d k = nI j
  | 0, _ => Or.inl rfl
  | d + 1, k => by
    show (if P k = true then nI k else fnN P d (k + 1)) = -1 ∨ ∃ j, j < k + (d + 1) ∧ (if P k = true then nI k else fnN P d (k + 1)) = nI j
    by_cases c : P k = true
    · rw [if_pos c]; exact Or.inr ⟨k, by omega, rfl⟩
    · rw [if_neg c]
      rcases fnN_or d (k + 1) with y | ⟨j, y1, y2⟩
      · exact Or.inl y
      · exact Or.inr ⟨j, by omega, y2⟩
theorem C_named2 {nn : Nat} (hk : 6 * k + 6 ≤ nn) (hn : nn ≤ 100) : ∀ (d j F : Nat), 6 - j = d → j ≤ 6 → d < F → ∃ r, r ≤ 6 ∧ zloop (fun s => f5_named_L2 (x + 49) a nn μ (nI k) s) F (nI j) = some (nI r) ∧ ((∀ i, j ≤ i → i < 6 → gA μ a (6 * k + i) = gA μ (x + 50) i) ↔ r = 6) := by
  intro d
  induction d with
  | zero =>
    intro j F h1 h2 h3
    have : j = 6 := by omega
    subst this
    refine ⟨6, by omega, zloop_out h3 ?_, fun _ => rfl, fun _ i i1 i2 => absurd i2 (by omega)⟩
    unfold f5_named_L2
    rw [show clt (nI 6) 6 = false from by decide]
    rfl
  | succ d ih =>
    intro j F h1 h2 h3
    cases F with
    | zero => omega
    | succ F =>
      have body : f5_named_L2 (x + 49) a nn μ (nI k) (nI j) = (if gA μ a (6 * k + j) = gA μ (x + 50) j then some (.inl (nI (j + 1))) else some (.inr (nI j))) := by
        unfold f5_named_L2
        rw [show clt (nI j) 6 = decide (j < 6) from clt_nI (b := 6) (by omega) (by omega), decide_eq_true (show j < 6 by omega), if_pos rfl, show (6 : Int32) = nI 6 from rfl, pk_mul, nI_add, show k * 6 + j = 6 * k + j by omega, rA_nI (by omega) (by omega), obs, show x + 49 + 1 = x + 50 from rfl, rA_nI (by omega) (by omega), obs, obs, nI_1]
        by_cases y : gA μ a (6 * k + j) = gA μ (x + 50) j
        · rw [if_pos y, show ceq (gA μ a (6 * k + j)) (gA μ (x + 50) j) = true from decide_eq_true y, if_pos rfl]; rfl
        · rw [if_neg y, show ceq (gA μ a (6 * k + j)) (gA μ (x + 50) j) = false from decide_eq_false y, if_neg (by decide)]
      by_cases y : gA μ a (6 * k + j) = gA μ (x + 50) j
      · rw [if_pos y] at body
        obtain ⟨r, r1, r2, r3⟩ := ih (j + 1) F (by omega) (by omega) (by omega)
        refine ⟨r, r1, zl_in2 body r2, fun q => r3.mp (fun i i1 i2 => q i (by omega) i2), fun q i i1 i2 => ?_⟩
        by_cases c : i = j
        · rw [c]; exact y
        · exact r3.mpr q i (by omega) i2
      · rw [if_neg y] at body
        refine ⟨j, by omega, zloop_out (by omega) body, fun q => absurd (q j (Nat.le_refl _) (by omega)) y, fun q => absurd q (by omega)⟩
theorem C_named1 {nn : Nat} (hc : 6 * c ≤ nn) (hn : nn ≤ 100) : ∀ (d k F : Nat), c - k = d → k ≤ c → d < F → ∃ r, zloop (fun s => f5_named_L1 (x + 49) a nn (nI c) μ s) F (nI k) = some r ∧ Sum.elim (fun v => some v) (zq1 fun _ => some (-1)) r = some (fnN (b6 (gA μ a) (gA μ (x + 50))) d k) := by
  intro d
  induction d with
  | zero =>
    intro k F h1 h2 h3
    have : k = c := by omega
    subst this
    refine ⟨.inr (nI k), zloop_out h3 ?_, rfl⟩
    unfold f5_named_L1
    rw [clt_nI (by omega) (by omega), decide_eq_false (by omega), if_neg (by decide)]
  | succ d ih =>
    intro k F h1 h2 h3
    cases F with
    | zero => omega
    | succ F =>
      obtain ⟨r, r1, r2, r3⟩ := C_named2 (x := x) (a := a) (μ := μ) (k := k) (nn := nn) (by omega) hn 6 0 1000000 (by omega) (by omega) (by omega)
      have body : f5_named_L1 (x + 49) a nn (nI c) μ (nI k) = (if r = 6 then some (.inr (.inl (nI k))) else some (.inl (nI (k + 1)))) := by
        unfold f5_named_L1
        rw [clt_nI (by omega) (by omega), decide_eq_true (show k < c by omega), if_pos rfl, show (0 : Int32) = nI 0 from rfl, r2, obs, obs, show ceq (nI r) 6 = decide (r = 6) from ceq_nI (b := 6) (by omega) (by omega), nI_1]
        by_cases y : r = 6
        · rw [if_pos y, decide_eq_true y, if_pos rfl]
        · rw [if_neg y, decide_eq_false y, if_neg (by decide)]
      show ∃ r, _ ∧ _ = some (if b6 (gA μ a) (gA μ (x + 50)) k = true then nI k else fnN (b6 (gA μ a) (gA μ (x + 50))) d (k + 1))
      by_cases y : r = 6
      · rw [if_pos y] at body
        have : b6 (gA μ a) (gA μ (x + 50)) k = true := b6_iff.mpr (fun i hi => r3.mpr y i (by omega) hi)
        exact ⟨_, zloop_out (by omega) body, by rw [if_pos this]; rfl⟩
      · rw [if_neg y] at body
        have : ¬ b6 (gA μ a) (gA μ (x + 50)) k = true := fun z => y (r3.mp (fun i _ hi => b6_iff.mp z i hi))
        obtain ⟨r', q1, q2⟩ := ih (k + 1) F (by omega) (by omega) (by omega)
        exact ⟨r', zl_in2 body q1, by rw [if_neg this]; exact q2⟩
theorem C_named (hc : c ≤ 8) : f5_named (x + 49) a 48 (nI c) μ = some (fnN (b6 (gA μ a) (gA μ (x + 50))) c 0) := by
  obtain ⟨r, r1, r2⟩ := C_named1 (x := x) (a := a) (μ := μ) (c := c) (nn := 48) (by omega) (by omega) c 0 1000000 (by omega) (by omega) (by omega)
  unfold f5_named
  rw [show (0 : Int32) = nI 0 from rfl, r1, obs]
  exact r2
theorem R_lv (t : TpR m n g ν) (w : WE g n q e) (h8 : gF ν 1238 m = nI q) (h7 : gF ν 1237 m = nI e) (hi : i < 6) : (if (clt ((gF ν 1238 m) + nI i) (gF ν 1237 m)) = true then ((rA ν (m + 21) 1600 ((gF ν 1238 m) + nI i)).bind fun t4 => some (t4 - 96)) else (some 0)) = some (nI (nmv g q e i)) := by
  have t1 := t.1
  have w1 := w.1
  have w2 := w.2.1
  rw [h8, h7, nI_add, clt_nI (by omega) (by omega)]
  unfold nmv
  by_cases c : q + i < e
  · have sm := w.2.2.1 (q + i) (by omega) c
    unfold sml at sm
    rw [decide_eq_true c, if_pos rfl, rA_nI (by omega) (by omega), (t.2.2 (q + i) (by omega)).1, obs, show (96 : Int32) = nI 96 from rfl, nI_sub (by omega), if_pos c]
  · rw [decide_eq_false c, if_neg (by decide), if_neg c]; rfl
theorem R_isName1 (t : TpR m n g ν) (w : WE g n q e) (h8 : gF ν 1238 m = nI q) (h7 : gF ν 1237 m = nI e) (hk : k < 16) : ∀ (d j F : Nat), 6 - j = d → j ≤ 6 → d < F → ∃ r B, zloop (fun s => f12_isName_L1 m (nI k) ν s) F (nI j) = some r ∧ Sum.elim (fun v => some v) (zq1 fun _ => some true) r = some B ∧ (B = true ↔ ∀ i, i < 6 → j ≤ i → gA ν (m + 20) (6 * k + i) = nI (nmv g q e i)) := by
  intro d
  induction d with
  | zero =>
    intro j F h1 h2 h3
    have : j = 6 := by omega
    subst this
    refine ⟨.inr (nI 6), true, zloop_out h3 ?_, rfl, fun _ i i1 i2 => absurd i2 (by omega), fun _ => rfl⟩
    unfold f12_isName_L1
    rw [show clt (nI 6) 6 = false from by decide, if_neg (by decide)]
  | succ d ih =>
    intro j F h1 h2 h3
    cases F with
    | zero => omega
    | succ F =>
      have body : f12_isName_L1 m (nI k) ν (nI j) = (if gA ν (m + 20) (6 * k + j) = nI (nmv g q e j) then some (.inl (nI (j + 1))) else some (.inr (.inl false))) := by
        unfold f12_isName_L1
        rw [show clt (nI j) 6 = decide (j < 6) from clt_nI (b := 6) (by omega) (by omega), decide_eq_true (show j < 6 by omega), if_pos rfl, R_lv t w h8 h7 (by omega), obs, show (6 : Int32) = nI 6 from rfl, pk_mul, nI_add, rA_nI (by omega) (by omega), obs, obs, nI_1]
        by_cases y : gA ν (m + 20) (6 * k + j) = nI (nmv g q e j)
        · rw [if_pos y, show ceq (gA ν (m + 20) (6 * k + j)) (nI (nmv g q e j)) = true from decide_eq_true y, if_pos rfl]
        · rw [if_neg y, show ceq (gA ν (m + 20) (6 * k + j)) (nI (nmv g q e j)) = false from decide_eq_false y, if_neg (by decide)]
      by_cases y : gA ν (m + 20) (6 * k + j) = nI (nmv g q e j)
      · rw [if_pos y] at body
        obtain ⟨r, B, r1, r2, r3⟩ := ih (j + 1) F (by omega) (by omega) (by omega)
        refine ⟨r, B, zl_in2 body r1, r2, fun z i i1 i2 => ?_, fun z => r3.mpr (fun i i1 i2 => z i i1 (by omega))⟩
        by_cases d : i = j
        · rw [d]; exact y
        · exact r3.mp z i i1 (by omega)
      · rw [if_neg y] at body
        exact ⟨_, false, zloop_out (by omega) body, rfl, fun z => absurd z (by decide), fun z => absurd (z j (by omega) (Nat.le_refl _)) y⟩
theorem R_isName (t : TpR m n g ν) (w : WE g n q e) (h8 : gF ν 1238 m = nI q) (h7 : gF ν 1237 m = nI e) (hk : k < 16) : f12_isName m (nI k) ν = some (b6 (gA ν (m + 20)) (fun i => nI (nmv g q e i)) k) := by
  obtain ⟨r, B, r1, r2, r3⟩ := R_isName1 t w h8 h7 hk 6 0 1000000 (by omega) (by omega) (by omega)
  unfold f12_isName
  rw [show (0 : Int32) = nI 0 from rfl, r1, obs, r2]
  refine congrArg some (bb_eq ?_)
  rw [b6_iff, r3]
  exact ⟨fun z i hi => z i hi (by omega), fun z i hi _ => z i hi⟩
theorem R_nameIn1 (t : TpR m n g ν) (w : WE g n q e) (h8 : gF ν 1238 m = nI q) (h7 : gF ν 1237 m = nI e) (hc : f0 + c ≤ 16) : ∀ (d k F : Nat), c - k = d → k ≤ c → d < F → ∃ r, zloop (fun s => f12_nameIn_L1 m (nI f0) (nI c) ν s) F (nI (f0 + k)) = some r ∧ Sum.elim (fun v => some v) (zq1 fun _ => some (-1)) r = some (fnN (fun k => b6 (gA ν (m + 20)) (fun i => nI (nmv g q e i)) (f0 + k)) d k) := by
  intro d
  induction d with
  | zero =>
    intro k F h1 h2 h3
    have : k = c := by omega
    subst this
    refine ⟨.inr (nI (f0 + k)), zloop_out h3 ?_, rfl⟩
    unfold f12_nameIn_L1
    rw [nI_add, clt_nI (by omega) (by omega), decide_eq_false (by omega), if_neg (by decide)]
  | succ d ih =>
    intro k F h1 h2 h3
    cases F with
    | zero => omega
    | succ F =>
      have body : f12_nameIn_L1 m (nI f0) (nI c) ν (nI (f0 + k)) = (if b6 (gA ν (m + 20)) (fun i => nI (nmv g q e i)) (f0 + k) = true then some (.inr (.inl (nI k))) else some (.inl (nI (f0 + (k + 1))))) := by
        unfold f12_nameIn_L1
        rw [nI_add, clt_nI (by omega) (by omega), decide_eq_true (show f0 + k < f0 + c by omega), if_pos rfl, R_isName t w h8 h7 (by omega), obs, obs, nI_sub (by omega), nI_1, show f0 + k - f0 = k by omega]
        rfl
      show ∃ r, _ ∧ _ = some (if b6 (gA ν (m + 20)) (fun i => nI (nmv g q e i)) (f0 + k) = true then nI k else fnN (fun k => b6 (gA ν (m + 20)) (fun i => nI (nmv g q e i)) (f0 + k)) d (k + 1))
      by_cases y : b6 (gA ν (m + 20)) (fun i => nI (nmv g q e i)) (f0 + k) = true
      · rw [if_pos y] at body
        exact ⟨_, zloop_out (by omega) body, by rw [if_pos y]; rfl⟩
      · rw [if_neg y] at body
        obtain ⟨r', q1, q2⟩ := ih (k + 1) F (by omega) (by omega) (by omega)
        exact ⟨r', zl_in2 body q1, by rw [if_neg y]; exact q2⟩
theorem R_nameIn (t : TpR m n g ν) (w : WE g n q e) (h8 : gF ν 1238 m = nI q) (h7 : gF ν 1237 m = nI e) (hc : f0 + c ≤ 16) : f12_nameIn m (nI f0) (nI c) ν = some (fnN (fun k => b6 (gA ν (m + 20)) (fun i => nI (nmv g q e i)) (f0 + k)) c 0) := by
  obtain ⟨r, r1, r2⟩ := R_nameIn1 t w h8 h7 hc c 0 1000000 (by omega) (by omega) (by omega)
  unfold f12_nameIn
  rw [Nat.add_zero] at r1
  rw [r1, obs]
  exact r2
/-- the reference lays the name down -/
theorem R_layL (w : WE g n q e) (hk : k < 16) : ∀ (d j F : Nat) (ν : zM), 6 - j = d → j ≤ 6 → d < F → TpR m n g ν → gF ν 1238 m = nI q → gF ν 1237 m = nI e → ∃ ν', zloop (fun s => f12_freshName_L1 m (nI k) s.1 s.2) F (nI j, ν) = some (nI 6, ν') ∧ (∀ k a, gF ν' k a = gF ν k a) ∧ (∀ k a, gB ν' k a = gB ν k a) ∧ (∀ k a, gR ν' k a = gR ν k a) ∧ (∀ a i, gZ ν' a i = gZ ν a i) ∧ (∀ a i, gX ν' a i = gX ν a i) ∧ ∀ a i, gA ν' a i = if a = m + 20 ∧ 6 * k + j ≤ i ∧ i < 6 * k + 6 then nI (nmv g q e (i - 6 * k)) else gA ν a i := by
  intro d
  induction d with
  | zero =>
    intro j F ν h1 h2 h3 t h8 h7
    have : j = 6 := by omega
    subst this
    refine ⟨ν, zloop_out h3 ?_, fun _ _ => rfl, fun _ _ => rfl, fun _ _ => rfl, fun _ _ => rfl, fun _ _ => rfl, fun a i => by rw [if_neg (by omega)]⟩
    show f12_freshName_L1 m (nI k) (nI 6) ν = _
    unfold f12_freshName_L1
    rw [show clt (nI 6) 6 = false from by decide, if_neg (by decide)]
  | succ d ih =>
    intro j F ν h1 h2 h3 t h8 h7
    cases F with
    | zero => omega
    | succ F =>
      obtain ⟨ν', f1, f2, f3, f4, f5, f6, f7⟩ := ih (j + 1) F (sA ν (m + 20) (6 * k + j) (nI (nmv g q e j))) (by omega) (by omega) (by omega) ⟨t.1, t.2.1, fun i hi => by rw [gA_sA, if_neg (by omega)]; exact t.2.2 i hi⟩ h8 h7
      refine ⟨ν', zl_in2 (body := fun s => f12_freshName_L1 m (nI k) s.1 s.2) ?_ f1, f2, f3, f4, f5, f6, fun a i => ?_⟩
      · show f12_freshName_L1 m (nI k) (nI j) ν = _
        unfold f12_freshName_L1
        rw [show clt (nI j) 6 = decide (j < 6) from clt_nI (b := 6) (by omega) (by omega), decide_eq_true (show j < 6 by omega), if_pos rfl, R_lv t w h8 h7 (by omega), obs, show (6 : Int32) = nI 6 from rfl, pk_mul, nI_add, wA_nI (by omega) (by omega), obs, obs, nI_1]
      · rw [f7 a i, gA_sA]
        by_cases y : a = m + 20
        · by_cases y2 : i = 6 * k + j
          · rw [if_neg (by omega), if_pos ⟨y, y2⟩, if_pos ⟨y, by omega, by omega⟩, y2, show 6 * k + j - 6 * k = j by omega]
          · by_cases y3 : 6 * k + j ≤ i ∧ i < 6 * k + 6
            · rw [if_pos ⟨y, by omega, by omega⟩, if_pos ⟨y, y3⟩]
            · rw [if_neg (by omega), if_neg (by omega), if_neg (by omega)]
        · rw [if_neg (by omega), if_neg (by omega), if_neg (by omega)]
end zNc
