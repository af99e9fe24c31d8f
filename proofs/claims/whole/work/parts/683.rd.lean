/-! READING: tokens, where the last one ended; both -/
def ltr (c : Nat) : Prop := sml c ∨ dgt c
/-- l: where the last token ended, or -1 -/
def LT (g : Nat → Nat) (p : Nat) (l : Int32) : Prop := (l = -1 ∧ ∀ j, j < p → ¬ ltr (g j)) ∨ ∃ e, l = nI e ∧ 0 < e ∧ e ≤ p ∧ ltr (g (e - 1)) ∧ ∀ j, e ≤ j → j < p → ¬ ltr (g j)
/-- no fault is noted -/
def KP (x m : Nat) (μ ν : zM) : Prop := gF μ 507 (x + 49) = 0 ∧ gF μ 508 (x + 49) = -1 ∧ gF ν 1240 m = -1
/-- both readers stand at p, nothing failed -/
def RS (x m n : Nat) (g : Nat → Nat) (p : Nat) (μ ν : zM) : Prop := TpC x n g μ ∧ TpR m n g ν ∧ OL m ν ∧ p ≤ n ∧ gF μ 503 (x + 49) = nI p ∧ gF ν 1237 m = nI p ∧ LT g p (gF μ 504 (x + 49)) ∧ gF ν 1239 m = 0 ∧ KP x m μ ν
section zN3
variable {x m n p q e k i j a : Nat} {μ ν μ' ν' : zM} {g : Nat → Nat} {v v' l : Int32}
theorem KP.kc (h : KP x m μ ν) (h1 : k ≠ 507) (h2 : k ≠ 508) : KP x m (sF μ k (x + 49) v) ν := ⟨by rw [sF_ne (fun y => h1 y.symm)]; exact h.1, by rw [sF_ne (fun y => h2 y.symm)]; exact h.2.1, h.2.2⟩
theorem KP.kr (h : KP x m μ ν) (h1 : gF ν' 1240 m = gF ν 1240 m) : KP x m μ ν' := ⟨h.1, h.2.1, h1.trans h.2.2⟩
theorem nltr_blk {c : Nat} (h : blk c) : ¬ ltr c := by unfold ltr; unfold blk at h; unfold sml dgt; omega
theorem LT.sk (h : LT g p l) (s : SK g n p q) : LT g q l := by
  obtain ⟨s1, s2, s3, s4⟩ := s
  rcases h with ⟨h1, h2⟩ | ⟨e, h1, h2, h3, h4, h5⟩
  · refine Or.inl ⟨h1, fun j hj => ?_⟩
    by_cases c : j < p
    · exact h2 j c
    · exact nltr_blk (s3 j (by omega) hj)
  · refine Or.inr ⟨e, h1, h2, by omega, h4, fun j j1 j2 => ?_⟩
    by_cases c : j < p
    · exact h5 j j1 c
    · exact nltr_blk (s3 j (by omega) j2)
theorem LT.one (h : LT g p l) (hp : ¬ ltr (g p)) : LT g (p + 1) l := by
  rcases h with ⟨h1, h2⟩ | ⟨e, h1, h2, h3, h4, h5⟩
  · refine Or.inl ⟨h1, fun j hj => ?_⟩
    by_cases c : j = p
    · rw [c]; exact hp
    · exact h2 j (by omega)
  · refine Or.inr ⟨e, h1, h2, by omega, h4, fun j j1 j2 => ?_⟩
    by_cases c : j = p
    · rw [c]; exact hp
    · exact h5 j j1 (by omega)
theorem LT.tok (h1 : 0 < e) (h2 : ltr (g (e - 1))) : LT g e (nI e) := Or.inr ⟨e, rfl, h1, Nat.le_refl _, h2, fun j j1 j2 => absurd j2 (by omega)⟩
theorem LT.tch (h : LT g p l) (hp : p ≤ n) (hn : n ≤ 1600) : ceq (nI p) l = true ↔ touch g n p := by
  unfold touch
  rcases h with ⟨h1, h2⟩ | ⟨e, h1, h2, h3, h4, h5⟩
  · rw [h1]
    constructor
    · intro z
      have := of_decide_eq_true z
      exact absurd this.symm (m1_ne (by omega))
    · rintro ⟨z1, z2, z3⟩
      exact absurd z3 (h2 (p - 1) (by omega))
  · rw [h1, ceq_nI (by omega) (by omega), decide_eq_true_iff]
    constructor
    · intro z
      subst z
      exact ⟨h2, by omega, h4⟩
    · rintro ⟨z1, z2, z3⟩
      by_cases c : p = e
      · exact c
      · exact absurd z3 (h5 (p - 1) (by omega) (by omega))
end zN3
