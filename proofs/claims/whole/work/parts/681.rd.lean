/-! READING: word ends, letters, digits; both -/
section zN1
variable {x m n p q e k i j a : Nat} {μ ν μ' ν' : zM} {g : Nat → Nat} {v v' : Int32}
theorem b_sml {c : Nat} (hc : c < 256) : (!(clt (nI c) 97) && !(clt 122 (nI c))) = decide (sml c) := by
  rw [show clt (nI c) 97 = decide (c < 97) from clt_nI (b := 97) (by omega) (by omega), show clt 122 (nI c) = decide (122 < c) from clt_nI (a := 122) (by omega) (by omega)]
  by_cases h : sml c
  · rw [decide_eq_true h]
    unfold sml at h
    rw [decide_eq_false (by omega), decide_eq_false (by omega)]; rfl
  · rw [decide_eq_false h]
    unfold sml at h
    by_cases h2 : c < 97
    · rw [decide_eq_true h2]; rfl
    · rw [decide_eq_false h2, decide_eq_true (show 122 < c by omega)]; rfl
theorem b_dgt {c : Nat} (hc : c < 256) : (!(clt (nI c) 48) && !(clt 57 (nI c))) = decide (dgt c) := by
  rw [show clt (nI c) 48 = decide (c < 48) from clt_nI (b := 48) (by omega) (by omega), show clt 57 (nI c) = decide (57 < c) from clt_nI (a := 57) (by omega) (by omega)]
  by_cases h : dgt c
  · rw [decide_eq_true h]
    unfold dgt at h
    rw [decide_eq_false (by omega), decide_eq_false (by omega)]; rfl
  · rw [decide_eq_false h]
    unfold dgt at h
    by_cases h2 : c < 48
    · rw [decide_eq_true h2]; rfl
    · rw [decide_eq_false h2, decide_eq_true (show 57 < c by omega)]; rfl
theorem if_and (a b : Bool) : (if a = true then (some b) else (some false) : Option Bool) = some (a && b) := by cases a <;> rfl
theorem R_small (t : TpR m n g ν) (hp : p ≤ 1600) : f12_isSmall m (nI p) ν = some (decide (p < n ∧ sml (g p))) := by
  unfold f12_isSmall
  rw [R_seen t hp]
  simp only [obs]
  by_cases c : p < n
  · have e2 := (t.2.2 p (by have := t.1; omega)).2
    rw [if_pos c, if_and, obs, b_sml e2]
    by_cases h : sml (g p)
    · rw [decide_eq_true h, decide_eq_true ⟨c, h⟩]
    · rw [decide_eq_false h, decide_eq_false (fun z => h z.2)]
  · rw [if_neg c, decide_eq_false (fun z => c z.1)]; rfl
theorem R_digit (t : TpR m n g ν) (hp : p ≤ 1600) : f12_isDigit m (nI p) ν = some (decide (p < n ∧ dgt (g p))) := by
  unfold f12_isDigit
  rw [R_seen t hp]
  simp only [obs]
  by_cases c : p < n
  · have e2 := (t.2.2 p (by have := t.1; omega)).2
    rw [if_pos c, if_and, obs, b_dgt e2]
    by_cases h : dgt (g p)
    · rw [decide_eq_true h, decide_eq_true ⟨c, h⟩]
    · rw [decide_eq_false h, decide_eq_false (fun z => h z.2)]
  · rw [if_neg c, decide_eq_false (fun z => c z.1)]; rfl
/-- what stands before a place is a letter or a digit -/
def touch (g : Nat → Nat) (n p : Nat) : Prop := 0 < p ∧ p - 1 < n ∧ (sml (g (p - 1)) ∨ dgt (g (p - 1)))
theorem R_before (t : TpR m n g ν) (hp : p ≤ 1600) : ∃ a b, f12_isSmall m (nI p - 1) ν = some a ∧ f12_isDigit m (nI p - 1) ν = some b ∧ ((a || b) = true ↔ touch g n p) := by
  cases p with
  | zero =>
    have e : f12_seen m (nI 0 - 1) ν = some (-1) := by
      unfold f12_seen
      rw [show clt (nI 0 - 1) 0 = true from by decide]; rfl
    refine ⟨false, false, ?_, ?_, ?_⟩
    · unfold f12_isSmall; rw [e]; rfl
    · unfold f12_isDigit; rw [e]; rfl
    · unfold touch
      constructor
      · intro h; cases h
      · intro h; omega
  | succ p =>
    refine ⟨_, _, by rw [← nI_1, Int32.add_sub_cancel, R_small t (by omega)], by rw [← nI_1, Int32.add_sub_cancel, R_digit t (by omega)], ?_⟩
    unfold touch
    rw [Nat.add_sub_cancel, Bool.or_eq_true, decide_eq_true_iff, decide_eq_true_iff]
    constructor
    · rintro (⟨h1, h2⟩ | ⟨h1, h2⟩)
      · exact ⟨by omega, h1, Or.inl h2⟩
      · exact ⟨by omega, h1, Or.inr h2⟩
    · rintro ⟨_, h1, h2 | h2⟩
      · exact Or.inl ⟨h1, h2⟩
      · exact Or.inr ⟨h1, h2⟩
theorem C_digit (t : TpC x n g μ) (hp : p ≤ 1600) : f5_isDigit (x + 49) (nI p) μ = some (decide (p < n ∧ dgt (g p))) := by
  obtain ⟨t1, t2, t3⟩ := t
  unfold f5_isDigit
  rw [t2, clt_nI (by omega) (by omega)]
  by_cases c : p < n
  · obtain ⟨e1, e2⟩ := t3 p (by omega)
    rw [decide_eq_true c, if_pos rfl, show x + 49 - 48 = x + 1 by omega, rA_nI (by omega) (by omega), e1]
    simp only [obs]
    rw [if_and, obs, b_dgt e2]
    by_cases h : dgt (g p)
    · rw [decide_eq_true h, decide_eq_true ⟨c, h⟩]
    · rw [decide_eq_false h, decide_eq_false (fun z => h z.2)]
  · rw [decide_eq_false c, decide_eq_false (fun z => c z.1)]; rfl
theorem C_wendL (t : TpC x n g μ) : ∀ (d q F : Nat), e - q = d → d < F → WE g n q e → zloop (fun s => f5_wordEnd_L1 (x + 49) μ s) F (nI q) = some (nI e) := by
  have t0 := t
  obtain ⟨t1, t2, t3⟩ := t
  have body : ∀ q, q ≤ n → f5_wordEnd_L1 (x + 49) μ (nI q) = (if q < n ∧ sml (g q) then some (.inl (nI (q + 1))) else some (.inr (nI q))) := fun q hq => by
    unfold f5_wordEnd_L1
    rw [t2, clt_nI (by omega) (by omega)]
    by_cases c : q < n
    · obtain ⟨e1, e2⟩ := t3 q (by omega)
      rw [decide_eq_true c, if_pos rfl, show x + 49 - 48 = x + 1 by omega, rA_nI (by omega) (by omega), e1]
      simp only [obs]
      rw [if_and, obs, b_sml e2]
      by_cases h : sml (g q)
      · rw [decide_eq_true h, if_pos rfl, if_pos ⟨c, h⟩, nI_1]
      · rw [decide_eq_false h, if_neg (by decide), if_neg (fun z => h z.2)]
    · rw [decide_eq_false c, if_neg (show ¬ (q < n ∧ sml (g q)) from fun z => c z.1)]; rfl
  intro d
  induction d with
  | zero =>
    intro q F h1 h2 w
    obtain ⟨w1, w2, w3, w4⟩ := w
    have : q = e := by omega
    subst this
    refine zloop_out h2 ?_
    rw [body q w2, if_neg (fun z => w4 z.1 z.2)]
  | succ d ih =>
    intro q F h1 h2 w
    cases F with
    | zero => omega
    | succ F =>
      obtain ⟨w1, w2, w3, w4⟩ := w
      refine zl_in2 ?_ (ih (q + 1) F (by omega) (by omega) ⟨by omega, w2, fun j h1 h3 => w3 j (by omega) h3, w4⟩)
      rw [body q (by omega), if_pos ⟨by omega, w3 q (by omega) (by omega)⟩]
theorem C_wend (t : TpC x n g μ) (w : WE g n q e) (hp : gF μ 503 (x + 49) = nI q) : f5_wordEnd (x + 49) μ = some (nI e) := by
  have h1 := w.1
  have h2 := w.2.1
  have h3 := t.1
  unfold f5_wordEnd
  rw [hp, obs, C_wendL t (e - q) q 1000000 rfl (by omega) w, obs]
theorem R_wordL : ∀ (d p F : Nat) (ν : zM), e - p = d → d < F → WE g n p e → TpR m n g ν → gF ν 1237 m = nI p → zloop (fun s => f12_word_L1 m s) F ν = some (sF ν 1237 m (nI e)) := by
  intro d
  induction d with
  | zero =>
    intro p F ν h1 h2 w t hp
    obtain ⟨w1, w2, w3, w4⟩ := w
    have : p = e := by omega
    subst this
    have t1 := t.1
    rw [sF_id hp]
    refine zloop_out h2 ?_
    unfold f12_word_L1
    rw [hp, R_small t (by omega), obs, decide_eq_false (fun z => w4 z.1 z.2), if_neg (by decide)]
  | succ d ih =>
    intro p F ν h1 h2 w t hp
    cases F with
    | zero => omega
    | succ F =>
      obtain ⟨w1, w2, w3, w4⟩ := w
      have t1 := t.1
      have r := ih (p + 1) F (sF ν 1237 m (nI (p + 1))) (by omega) (by omega) ⟨by omega, w2, fun j h1 h3 => w3 j (by omega) h3, w4⟩ (t.w (by omega)) sF_eq
      rw [sF_2] at r
      refine zl_in2 ?_ r
      unfold f12_word_L1
      rw [hp, R_small t (by omega), obs, decide_eq_true ⟨by omega, w3 p (by omega) (by omega)⟩, if_pos rfl, nI_1]
      rfl
end zN1
