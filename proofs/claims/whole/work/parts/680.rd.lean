/-! READING: blanks, words, digits; both -/
abbrev blk (c : Nat) : Prop := c = 32 ∨ c = 10
abbrev sml (c : Nat) : Prop := 97 ≤ c ∧ c ≤ 122
abbrev dgt (c : Nat) : Prop := 48 ≤ c ∧ c ≤ 57
/-- q is the first place from p on that is no blank -/
def SK (g : Nat → Nat) (n p q : Nat) : Prop := p ≤ q ∧ q ≤ n ∧ (∀ j, p ≤ j → j < q → blk (g j)) ∧ (q < n → ¬ blk (g q))
/-- e is the end of the word at q -/
def WE (g : Nat → Nat) (n q e : Nat) : Prop := q ≤ e ∧ e ≤ n ∧ (∀ j, q ≤ j → j < e → sml (g j)) ∧ (e < n → ¬ sml (g e))
/-- what both read: the tape, its length -/
def TpC (x n : Nat) (g : Nat → Nat) (μ : zM) : Prop := n ≤ 1600 ∧ gF μ 502 (x + 49) = nI n ∧ ∀ j, j < 1600 → gA μ (x + 1) j = nI (g j) ∧ g j < 256
def TpR (m n : Nat) (g : Nat → Nat) (ν : zM) : Prop := n ≤ 1600 ∧ gF ν 1236 m = nI n ∧ ∀ j, j < 1600 → gA ν (m + 21) j = nI (g j) ∧ g j < 256
section zN0
variable {x m n p q e k i j a : Nat} {μ ν μ' ν' : zM} {g : Nat → Nat} {v v' : Int32}
theorem sF_id (h : gF μ k a = v) : sF μ k a v = μ := by
  have e : (fun k' a' => if k' = k ∧ a' = a then v else gF μ k' a') = μ.1 := by
    funext k' a'
    by_cases c : k' = k ∧ a' = a
    · rw [if_pos c, c.1, c.2, ← h]; rfl
    · rw [if_neg c]; rfl
  show ((fun k' a' => if k' = k ∧ a' = a then v else gF μ k' a'), μ.2) = μ
  rw [e]
theorem sF_2 : sF (sF μ k a v) k a v' = sF μ k a v' := by
  have e : (fun k' a' => if k' = k ∧ a' = a then v' else gF (sF μ k a v) k' a') = (fun k' a' => if k' = k ∧ a' = a then v' else gF μ k' a') := by
    funext k' a'
    by_cases c : k' = k ∧ a' = a
    · rw [if_pos c, if_pos c]
    · rw [if_neg c, if_neg c, gF_sF, if_neg c]
  show ((fun k' a' => if k' = k ∧ a' = a then v' else gF (sF μ k a v) k' a'), μ.2) = ((fun k' a' => if k' = k ∧ a' = a then v' else gF μ k' a'), μ.2)
  rw [e]
theorem sF_ne {k' : Nat} (h : k' ≠ k) : gF (sF μ k a v) k' a = gF μ k' a := by rw [gF_sF, if_neg (fun z => h z.1)]
theorem sF_eq : gF (sF μ k a v) k a = v := by rw [gF_sF, if_pos ⟨rfl, rfl⟩]
theorem TpC.w (h : TpC x n g μ) (hk : k ≠ 502) : TpC x n g (sF μ k a v) := ⟨h.1, by rw [gF_sF, if_neg (fun z => hk z.1.symm)]; exact h.2.1, h.2.2⟩
theorem TpR.w (h : TpR m n g ν) (hk : k ≠ 1236) : TpR m n g (sF ν k a v) := ⟨h.1, by rw [gF_sF, if_neg (fun z => hk z.1.symm)]; exact h.2.1, h.2.2⟩
theorem SK.ex (g : Nat → Nat) (n : Nat) : ∀ d p, n - p = d → p ≤ n → ∃ q, SK g n p q
  | 0, p, h, h2 => ⟨n, by omega, Nat.le_refl _, fun j h1 h3 => absurd h3 (by omega), fun h3 => absurd h3 (by omega)⟩
  | d + 1, p, h, h2 => by
    by_cases c : blk (g p)
    · obtain ⟨q, a1, a2, a3, a4⟩ := SK.ex g n d (p + 1) (by omega) (by omega)
      refine ⟨q, by omega, a2, fun j h1 h3 => ?_, a4⟩
      by_cases z : j = p
      · rw [z]; exact c
      · exact a3 j (by omega) h3
    · exact ⟨p, Nat.le_refl _, h2, fun j h1 h3 => absurd h3 (by omega), fun _ => c⟩
theorem WE.ex (g : Nat → Nat) (n : Nat) : ∀ d p, n - p = d → p ≤ n → ∃ q, WE g n p q
  | 0, p, h, h2 => ⟨n, by omega, Nat.le_refl _, fun j h1 h3 => absurd h3 (by omega), fun h3 => absurd h3 (by omega)⟩
  | d + 1, p, h, h2 => by
    by_cases c : sml (g p)
    · obtain ⟨q, a1, a2, a3, a4⟩ := WE.ex g n d (p + 1) (by omega) (by omega)
      refine ⟨q, by omega, a2, fun j h1 h3 => ?_, a4⟩
      by_cases z : j = p
      · rw [z]; exact c
      · exact a3 j (by omega) h3
    · exact ⟨p, Nat.le_refl _, h2, fun j h1 h3 => absurd h3 (by omega), fun _ => c⟩
theorem C_skip (s : SK g n p q) : ∀ (d p F : Nat) (μ : zM), q - p = d → d < F → SK g n p q → TpC x n g μ → gF μ 503 (x + 49) = nI p → zloop (fun s => f5_skipBlanks_L1 (x + 49) s) F μ = some (sF μ 503 (x + 49) (nI q)) := by
  intro d
  induction d with
  | zero =>
    intro p F μ h1 h2 s t hp
    obtain ⟨s1, s2, s3, s4⟩ := s
    obtain ⟨t1, t2, t3⟩ := t
    have : p = q := by omega
    subst this
    rw [sF_id hp]
    refine zloop_out h2 ?_
    unfold f5_skipBlanks_L1
    rw [hp, t2, clt_nI (by omega) (by omega)]
    by_cases c : p < n
    · have nb := s4 c
      obtain ⟨e1, e2⟩ := t3 p (by omega)
      unfold blk at nb
      rw [decide_eq_true c, if_pos rfl, show x + 49 - 48 = x + 1 by omega, rA_nI (by omega) (by omega), e1, obs, obs, show (32 : Int32) = nI 32 from rfl, ceq_nI (by omega) (by omega), decide_eq_false (by omega), if_neg (by decide), obs, show (10 : Int32) = nI 10 from rfl, ceq_nI (by omega) (by omega), decide_eq_false (by omega), obs, if_neg (by decide)]
    · rw [decide_eq_false c]; rfl
  | succ d ih =>
    intro p F μ h1 h2 s t hp
    cases F with
    | zero => omega
    | succ F =>
      have s0 := s
      have t0 := t
      obtain ⟨s1, s2, s3, s4⟩ := s
      obtain ⟨t1, t2, t3⟩ := t
      have hb := s3 p (by omega) (by omega)
      obtain ⟨e1, e2⟩ := t3 p (by omega)
      have r := ih (p + 1) F (sF μ 503 (x + 49) (nI (p + 1))) (by omega) (by omega) ⟨by omega, s2, fun j h1 h3 => s3 j (by omega) h3, s4⟩ (t0.w (by omega)) sF_eq
      rw [sF_2] at r
      refine zl_in2 ?_ r
      unfold f5_skipBlanks_L1
      rw [hp, t2, clt_nI (by omega) (by omega), decide_eq_true (show p < n by omega), if_pos rfl, show x + 49 - 48 = x + 1 by omega, rA_nI (by omega) (by omega), e1, obs, obs, obs, show (32 : Int32) = nI 32 from rfl, ceq_nI (by omega) (by omega), show (10 : Int32) = nI 10 from rfl, ceq_nI (by omega) (by omega)]
      rcases hb with hb | hb
      · rw [decide_eq_true hb, if_pos rfl, obs, if_pos rfl, nI_1]; rfl
      · rw [decide_eq_false (by omega), decide_eq_true hb, if_neg (by decide), obs, if_pos rfl, nI_1]; rfl
theorem C_sk (s : SK g n p q) (t : TpC x n g μ) (hp : gF μ 503 (x + 49) = nI p) : f5_skipBlanks (x + 49) μ = some (sF μ 503 (x + 49) (nI q)) := by
  have h1 := s.1
  have h2 := s.2.1
  have h3 := t.1
  unfold f5_skipBlanks
  rw [C_skip (x := x) s (q - p) p 1000000 μ rfl (by omega) s t hp, obs]
/-- what the reference sees at a place -/
theorem R_seen (t : TpR m n g ν) (hp : p ≤ 1600) : f12_seen m (nI p) ν = some (if p < n then nI (g p) else -1) := by
  obtain ⟨t1, t2, t3⟩ := t
  unfold f12_seen
  rw [t2, show clt (nI p) 0 = false from by rw [show (0 : Int32) = nI 0 from rfl, clt_nI (by omega) (by omega), decide_eq_false (by omega)], clt_nI (by omega) (by omega)]
  by_cases c : p < n
  · rw [decide_eq_true c, if_pos (by decide), rA_nI (by omega) (by omega), (t3 p (by omega)).1, if_pos c]; rfl
  · rw [decide_eq_false c, if_neg (by decide), if_neg c]; rfl
theorem R_hereL (s : SK g n p q) : ∀ (d p F : Nat) (ν : zM), q - p = d → d < F → SK g n p q → TpR m n g ν → gF ν 1237 m = nI p → zloop (fun s => f12_here_L1 m s) F ν = some (sF ν 1237 m (nI q)) := by
  intro d
  induction d with
  | zero =>
    intro p F ν h1 h2 s t hp
    obtain ⟨s1, s2, s3, s4⟩ := s
    have : p = q := by omega
    subst this
    have t1 := t.1
    rw [sF_id hp]
    refine zloop_out h2 ?_
    unfold f12_here_L1
    rw [hp, R_seen t (by omega)]
    by_cases c : p < n
    · have nb := s4 c
      have e2 := (t.2.2 p (by omega)).2
      unfold blk at nb
      rw [if_pos c, obs, obs, show (10 : Int32) = nI 10 from rfl, ceq_nI (by omega) (by omega), decide_eq_false (by omega), obs, if_neg (by decide), obs, show (32 : Int32) = nI 32 from rfl, ceq_nI (by omega) (by omega), decide_eq_false (by omega), if_neg (by decide)]
    · rw [if_neg c]; rfl
  | succ d ih =>
    intro p F ν h1 h2 s t hp
    cases F with
    | zero => omega
    | succ F =>
      obtain ⟨s1, s2, s3, s4⟩ := s
      have t1 := t.1
      have hb := s3 p (by omega) (by omega)
      have e2 := (t.2.2 p (by omega)).2
      have r := ih (p + 1) F (sF ν 1237 m (nI (p + 1))) (by omega) (by omega) ⟨by omega, s2, fun j h1 h3 => s3 j (by omega) h3, s4⟩ (t.w (by omega)) sF_eq
      rw [sF_2] at r
      refine zl_in2 ?_ r
      unfold f12_here_L1
      rw [hp, R_seen t (by omega), if_pos (show p < n by omega)]
      simp only [obs]
      rw [show (32 : Int32) = nI 32 from rfl, ceq_nI (by omega) (by omega), show (10 : Int32) = nI 10 from rfl, ceq_nI (by omega) (by omega)]
      rcases hb with hb | hb
      · rw [decide_eq_false (show ¬ g p = 10 by omega), decide_eq_true hb, if_neg (by decide), obs, if_pos rfl, nI_1]; rfl
      · rw [decide_eq_true hb, if_pos rfl, obs, if_pos rfl, nI_1]; rfl
theorem R_here (s : SK g n p q) (t : TpR m n g ν) (hp : gF ν 1237 m = nI p) : f12_here m ν = some (if q < n then nI (g q) else -1, sF ν 1237 m (nI q)) := by
  have h1 := s.1
  have h2 := s.2.1
  have h3 := t.1
  unfold f12_here
  rw [R_hereL (m := m) s (q - p) p 1000000 ν rfl (by omega) s t hp, obs, sF_eq, R_seen (t.w (by omega)) (by omega), obs]
end zN0
