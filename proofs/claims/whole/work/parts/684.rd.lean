/-! READING: a word, both -/
section zN4
variable {x m n p q e k i j a : Nat} {μ ν μ' ν' : zM} {g : Nat → Nat} {v v' l : Int32}
theorem C_next (t : TpC x n g μ) (hp : gF μ 503 (x + 49) = nI p) (hl : LT g p (gF μ 504 (x + 49))) (s : SK g n p q) (w : WE g n q e) (hk : k < 13) : (¬ touch g n q ∧ IsW g q e k ∧ f5_nextIs (x + 49) k μ = some (true, sF μ 503 (x + 49) (nI q))) ∨ (¬ (¬ touch g n q ∧ IsW g q e k) ∧ f5_nextIs (x + 49) k μ = some (false, sF μ 503 (x + 49) (nI q))) := by
  have t1 := t.1
  have h := (hl.sk s).tch (n := n) s.2.1 t1
  unfold f5_nextIs
  rw [C_sk s t hp, obs, sF_eq, sF_ne (by omega)]
  cases c : ceq (nI q) (gF μ 504 (x + 49)) with
  | true => exact Or.inr ⟨fun z => z.1 (h.mp c), rfl⟩
  | false =>
    have nt : ¬ touch g n q := fun z => by
      have := h.mpr z
      rw [c] at this
      cases this
    rcases C_isW (k := k) (t.w (k := 503) (a := x + 49) (v := nI q) (by omega)) w sF_eq hk with ⟨a1, a2⟩ | ⟨a1, a2⟩
    · rw [if_neg (by decide), a2]
      exact Or.inl ⟨nt, a1, rfl⟩
    · rw [if_neg (by decide), a2]
      exact Or.inr ⟨fun z => a1 z.2, rfl⟩
theorem C_word (t : TpC x n g μ) (hp : gF μ 503 (x + 49) = nI p) (hl : LT g p (gF μ 504 (x + 49))) (s : SK g n p q) (w : WE g n q e) (hk : k < 13) : (¬ touch g n q ∧ IsW g q e k ∧ f5_word (x + 49) k μ = some (true, sF (sF μ 503 (x + 49) (nI e)) 504 (x + 49) (nI e))) ∨ (¬ (¬ touch g n q ∧ IsW g q e k) ∧ f5_word (x + 49) k μ = some (false, sF (sF (sF μ 503 (x + 49) (nI q)) 507 (x + 49) 1) 508 (x + 49) (nI q))) := by
  unfold f5_word
  rcases C_next t hp hl s w hk with ⟨a1, a2, a3⟩ | ⟨a1, a3⟩
  · refine Or.inl ⟨a1, a2, ?_⟩
    have l := (w_len k hk).1
    rw [a3, ozb2, if_pos rfl]
    unfold f5_pass sLen
    simp only [wF, obs]
    rw [sF_eq, sF_eq, l, show Int32.ofNat (wln k) = nI (wln k) from rfl, nI_add, sF_2, a2.1]
  · refine Or.inr ⟨a1, ?_⟩
    rw [a3, ozb2, if_neg (by decide)]
    unfold f5_fails
    simp only [wF, obs]
    rw [sF_eq, ozb2]
/-- nothing is read any more -/
theorem R_wordD (hd : ceq (gF ν 1239 m) 0 = false) : f12_word m ν = some ν := by
  unfold f12_word f12_goes
  rw [hd, obs, obs, if_neg (by decide)]
theorem R_word (t : TpR m n g ν) (hp : gF ν 1237 m = nI p) (hd : gF ν 1239 m = 0) (s : SK g n p q) (w : WE g n q e) : (¬ touch g n q ∧ q < e ∧ f12_word m ν = some (sF (sF (sF ν 1237 m (nI q)) 1238 m (nI q)) 1237 m (nI e))) ∨ (¬ (¬ touch g n q ∧ q < e) ∧ f12_word m ν = some (sF (sF (sF (sF ν 1237 m (nI q)) 1238 m (nI q)) 1239 m 1) 1240 m (nI q))) := by
  have t1 := t.1
  have s2 := s.2.1
  have w1 := w.1
  have w2 := w.2.1
  have t' : TpR m n g (sF (sF ν 1237 m (nI q)) 1238 m (nI q)) := (t.w (by omega)).w (by omega)
  have e7 : gF (sF (sF ν 1237 m (nI q)) 1238 m (nI q)) 1237 m = nI q := by rw [sF_ne (by omega), sF_eq]
  have e9 : gF (sF (sF ν 1237 m (nI q)) 1238 m (nI q)) 1239 m = 0 := by rw [sF_ne (by omega), sF_ne (by omega)]; exact hd
  have qe : (q < n ∧ sml (g q)) ↔ q < e := by
    constructor
    · rintro ⟨a1, a2⟩
      by_cases c : q < e
      · exact c
      · have : e = q := by omega
        exact absurd a2 (by have := w.2.2.2 (by omega); rw [‹e = q›] at this; exact this)
    · intro h
      exact ⟨by omega, w.2.2.1 q (Nat.le_refl _) h⟩
  obtain ⟨a, b, b1, b2, b3⟩ := R_before t' (p := q) (by omega)
  unfold f12_word f12_goes
  rw [hd, show ceq (0 : Int32) 0 = true from rfl, obs, obs, if_pos rfl, R_here s t hp, ozb2, sF_eq]
  simp only [wF, obs]
  rw [e7, R_small t' (by omega), b1, b2]
  simp only [obs]
  by_cases c : q < e
  · rw [decide_eq_true (qe.mpr c)]
    by_cases tc : touch g n q
    · refine Or.inr ⟨fun z => z.1 tc, ?_⟩
      have ab := b3.mpr tc
      have : (if a = true then (some true) else (some b) : Option Bool) = some true := by
        cases a with
        | true => rfl
        | false => rw [Bool.false_or] at ab; rw [ab]; rfl
      rw [Bool.not_true, if_neg (by decide), obs, this, obs, if_pos rfl]
      unfold f12_fails
      rw [e9, show ceq (0 : Int32) 0 = true from rfl, if_pos rfl]
      rfl
    · refine Or.inl ⟨tc, c, ?_⟩
      have ab : ¬ (a || b) = true := fun z => tc (b3.mp z)
      have a0 : a = false := by cases a with
        | true => exact absurd rfl ab
        | false => rfl
      have b0 : b = false := by cases b with
        | true => rw [a0] at ab; exact absurd rfl ab
        | false => rfl
      rw [a0, b0, Bool.not_true, if_neg (by decide), obs, if_neg (by decide), obs, if_neg (by decide), R_wordL (e - q) q 1000000 _ rfl (by omega) w t' e7, obs]
  · rw [decide_eq_false (fun z => c (qe.mp z))]
    refine Or.inr ⟨fun z => c z.2, ?_⟩
    rw [Bool.not_false, if_pos rfl, obs, if_pos rfl, obs, if_pos rfl]
    unfold f12_fails
    rw [e9, show ceq (0 : Int32) 0 = true from rfl, if_pos rfl]
    rfl
end zN4
