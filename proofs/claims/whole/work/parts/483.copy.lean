/-! A STATE IS COPIED, in the class: objects of a row, field by field -/
abbrev zFd : Type := Bool × Nat × Nat
/-- fields copied one after another -/
def cps : List zFd → Nat → Nat → zM → zM
  | [], _, _, μ => μ
  | (true, k, d) :: l, o, v, μ => cps l o v (sF μ k (o + d) (gF μ k (v + d)))
  | (false, k, d) :: l, o, v, μ => cps l o v (sB μ k (o + d) (gB μ k (v + d)))
/-- the fields of `g` were copied, of objects of `d` cells from `v` on to those from `o` on, `n` of them -/
def CPn (g : Nat → zFd → Bool) (d o v n : Nat) (μ μ' : zM) : Prop :=
  (∀ k a, gF μ' k a = if o ≤ a ∧ a < o + d * n ∧ g ((a - o) / d) (true, k, (a - o) % d) = true then gF μ k (v + (a - o)) else gF μ k a) ∧
  (∀ k a, gB μ' k a = if o ≤ a ∧ a < o + d * n ∧ g ((a - o) / d) (false, k, (a - o) % d) = true then gB μ k (v + (a - o)) else gB μ k a) ∧
  (∀ a j, gA μ' a j = gA μ a j) ∧ (∀ a j, gZ μ' a j = gZ μ a j) ∧ (∀ k a, gR μ' k a = gR μ k a) ∧ ∀ a j, gX μ' a j = gX μ a j
/-- one object -/
def CP1 (g : zFd → Bool) (d o v : Nat) (μ μ' : zM) : Prop :=
  (∀ k a, gF μ' k a = if o ≤ a ∧ a < o + d ∧ g (true, k, a - o) = true then gF μ k (v + (a - o)) else gF μ k a) ∧
  (∀ k a, gB μ' k a = if o ≤ a ∧ a < o + d ∧ g (false, k, a - o) = true then gB μ k (v + (a - o)) else gB μ k a) ∧
  (∀ a j, gA μ' a j = gA μ a j) ∧ (∀ a j, gZ μ' a j = gZ μ a j) ∧ (∀ k a, gR μ' k a = gR μ k a) ∧ ∀ a j, gX μ' a j = gX μ a j
def inL (L : List zFd) (x : zFd) : Bool := L.contains x
section zV1
variable {μ μ' μ1 : zM} {o v d n : Nat}
theorem cps_1 : ∀ (L : List zFd) (μ : zM), (∀ x ∈ L, x.2.2 < d) → (o + d ≤ v ∨ v + d ≤ o) → CP1 (inL L) d o v μ (cps L o v μ)
  | [], μ, _, _ => ⟨fun k a => (if_neg (fun x => by cases x.2.2)).symm, fun k a => (if_neg (fun x => by cases x.2.2)).symm, fun _ _ => rfl, fun _ _ => rfl, fun _ _ => rfl, fun _ _ => rfl⟩
  | (true, k, e) :: l, μ, hd, ho => by
    have he : e < d := hd (true, k, e) (List.mem_cons_self ..)
    obtain ⟨i1, i2, i3, i4, i5, i6⟩ := cps_1 l (sF μ k (o + e) (gF μ k (v + e))) (fun x hx => hd x (List.mem_cons_of_mem _ hx)) ho
    have m1 : ∀ K x, inL ((true, k, e) :: l) (true, K, x) = (decide (K = k ∧ x = e) || inL l (true, K, x)) := fun K x => by
      unfold inL
      rw [List.contains_cons]
      congr 1
      rw [Bool.eq_iff_iff, beq_iff_eq, decide_eq_true_iff]
      exact ⟨fun h => by cases h; exact ⟨rfl, rfl⟩, fun h => by rw [h.1, h.2]⟩
    have m2 : ∀ K x, inL ((true, k, e) :: l) (false, K, x) = inL l (false, K, x) := fun K x => by
      unfold inL
      rw [List.contains_cons, show ((false, K, x) == (true, k, e)) = false from (by rw [beq_eq_false_iff_ne]; intro h; cases h), Bool.false_or]
    refine ⟨fun K a => ?_, fun K a => ?_, i3, i4, i5, i6⟩
    · show gF (cps l o v (sF μ k (o + e) (gF μ k (v + e)))) K a = _
      rw [i1, gF_sF, gF_sF, m1]
      by_cases c1 : o ≤ a ∧ a < o + d
      · rw [if_neg (show ¬ (K = k ∧ v + (a - o) = o + e) by omega)]
        by_cases c2 : inL l (true, K, a - o) = true
        · rw [if_pos (show o ≤ a ∧ a < o + d ∧ inL l (true, K, a - o) = true from ⟨c1.1, c1.2, c2⟩), if_pos (show o ≤ a ∧ a < o + d ∧ (decide (K = k ∧ a - o = e) || inL l (true, K, a - o)) = true from ⟨c1.1, c1.2, by rw [c2, Bool.or_true]⟩)]
        · rw [if_neg (show ¬ (o ≤ a ∧ a < o + d ∧ inL l (true, K, a - o) = true) from fun x => c2 x.2.2)]
          by_cases c3 : K = k ∧ a = o + e
          · rw [if_pos c3, if_pos (show o ≤ a ∧ a < o + d ∧ (decide (K = k ∧ a - o = e) || inL l (true, K, a - o)) = true from ⟨c1.1, c1.2, by rw [decide_eq_true (show K = k ∧ a - o = e by omega), Bool.true_or]⟩), c3.1, c3.2, show v + (o + e - o) = v + e by omega]
          · rw [if_neg c3, if_neg (show ¬ (o ≤ a ∧ a < o + d ∧ (decide (K = k ∧ a - o = e) || inL l (true, K, a - o)) = true) from fun x => by
              have := x.2.2
              rw [decide_eq_false (show ¬ (K = k ∧ a - o = e) by omega), Bool.false_or] at this
              exact c2 this)]
      · rw [if_neg (show ¬ (o ≤ a ∧ a < o + d ∧ inL l (true, K, a - o) = true) from fun x => c1 ⟨x.1, x.2.1⟩), if_neg (show ¬ (o ≤ a ∧ a < o + d ∧ (decide (K = k ∧ a - o = e) || inL l (true, K, a - o)) = true) from fun x => c1 ⟨x.1, x.2.1⟩), if_neg (by omega)]
    · show gB (cps l o v (sF μ k (o + e) (gF μ k (v + e)))) K a = _
      rw [i2, m2]; rfl
  | (false, k, e) :: l, μ, hd, ho => by
    have he : e < d := hd (false, k, e) (List.mem_cons_self ..)
    obtain ⟨i1, i2, i3, i4, i5, i6⟩ := cps_1 l (sB μ k (o + e) (gB μ k (v + e))) (fun x hx => hd x (List.mem_cons_of_mem _ hx)) ho
    have m1 : ∀ K x, inL ((false, k, e) :: l) (false, K, x) = (decide (K = k ∧ x = e) || inL l (false, K, x)) := fun K x => by
      unfold inL
      rw [List.contains_cons]
      congr 1
      rw [Bool.eq_iff_iff, beq_iff_eq, decide_eq_true_iff]
      exact ⟨fun h => by cases h; exact ⟨rfl, rfl⟩, fun h => by rw [h.1, h.2]⟩
    have m2 : ∀ K x, inL ((false, k, e) :: l) (true, K, x) = inL l (true, K, x) := fun K x => by
      unfold inL
      rw [List.contains_cons, show ((true, K, x) == (false, k, e)) = false from (by rw [beq_eq_false_iff_ne]; intro h; cases h), Bool.false_or]
    refine ⟨fun K a => ?_, fun K a => ?_, i3, i4, i5, i6⟩
    · show gF (cps l o v (sB μ k (o + e) (gB μ k (v + e)))) K a = _
      rw [i1, m2]; rfl
    · show gB (cps l o v (sB μ k (o + e) (gB μ k (v + e)))) K a = _
      rw [i2, gB_sB, gB_sB, m1]
      by_cases c1 : o ≤ a ∧ a < o + d
      · rw [if_neg (show ¬ (K = k ∧ v + (a - o) = o + e) by omega)]
        by_cases c2 : inL l (false, K, a - o) = true
        · rw [if_pos (show o ≤ a ∧ a < o + d ∧ inL l (false, K, a - o) = true from ⟨c1.1, c1.2, c2⟩), if_pos (show o ≤ a ∧ a < o + d ∧ (decide (K = k ∧ a - o = e) || inL l (false, K, a - o)) = true from ⟨c1.1, c1.2, by rw [c2, Bool.or_true]⟩)]
        · rw [if_neg (show ¬ (o ≤ a ∧ a < o + d ∧ inL l (false, K, a - o) = true) from fun x => c2 x.2.2)]
          by_cases c3 : K = k ∧ a = o + e
          · rw [if_pos c3, if_pos (show o ≤ a ∧ a < o + d ∧ (decide (K = k ∧ a - o = e) || inL l (false, K, a - o)) = true from ⟨c1.1, c1.2, by rw [decide_eq_true (show K = k ∧ a - o = e by omega), Bool.true_or]⟩), c3.1, c3.2, show v + (o + e - o) = v + e by omega]
          · rw [if_neg c3, if_neg (show ¬ (o ≤ a ∧ a < o + d ∧ (decide (K = k ∧ a - o = e) || inL l (false, K, a - o)) = true) from fun x => by
              have := x.2.2
              rw [decide_eq_false (show ¬ (K = k ∧ a - o = e) by omega), Bool.false_or] at this
              exact c2 this)]
      · rw [if_neg (show ¬ (o ≤ a ∧ a < o + d ∧ inL l (false, K, a - o) = true) from fun x => c1 ⟨x.1, x.2.1⟩), if_neg (show ¬ (o ≤ a ∧ a < o + d ∧ (decide (K = k ∧ a - o = e) || inL l (false, K, a - o)) = true) from fun x => c1 ⟨x.1, x.2.1⟩), if_neg (by omega)]
theorem CPn.z {g : Nat → zFd → Bool} : CPn g d o v 0 μ μ := ⟨fun k a => (if_neg (by omega)).symm, fun k a => (if_neg (by omega)).symm, fun _ _ => rfl, fun _ _ => rfl, fun _ _ => rfl, fun _ _ => rfl⟩
theorem dv_of {a x d n : Nat} (hd : 0 < d) (h1 : d * n ≤ x) (h2 : x < d * n + d) : x / d = n ∧ x % d = x - d * n := by
  have e : x = (x - d * n) + d * n := by omega
  refine ⟨?_, ?_⟩
  · rw [e, Nat.add_mul_div_left _ _ hd, Nat.div_eq_of_lt (by omega), Nat.zero_add]
  · conv => lhs; rw [e, Nat.add_mul_mod_self_left]
    exact Nat.mod_eq_of_lt (by omega)
theorem CPn.s {g : Nat → zFd → Bool} (hd : 0 < d) (ho : o + d * (n + 1) ≤ v ∨ v + d * (n + 1) ≤ o) (h : CPn g d o v n μ μ1) (h1 : CP1 (g n) d (o + d * n) (v + d * n) μ1 μ') : CPn g d o v (n + 1) μ μ' := by
  have em : d * (n + 1) = d * n + d := by rw [Nat.mul_add, Nat.mul_one]
  rw [em] at ho
  obtain ⟨a1, a2, a3, a4, a5, a6⟩ := h
  obtain ⟨b1, b2, b3, b4, b5, b6⟩ := h1
  refine ⟨fun k a => ?_, fun k a => ?_, fun a j => (b3 a j).trans (a3 a j), fun a j => (b4 a j).trans (a4 a j), fun a j => (b5 a j).trans (a5 a j), fun a j => (b6 a j).trans (a6 a j)⟩
  · rw [b1, em]
    by_cases c1 : o + d * n ≤ a ∧ a < o + d * n + d
    · obtain ⟨e1, e2⟩ := dv_of (a := a) (x := a - o) (n := n) hd (by omega) (by omega)
      have e3 : a - o - d * n = a - (o + d * n) := by omega
      rw [e1, e2, e3]
      by_cases c2 : g n (true, k, a - (o + d * n)) = true
      · rw [if_pos ⟨c1.1, c1.2, c2⟩, if_pos ⟨by omega, by omega, c2⟩, a1, if_neg (by omega), show v + d * n + (a - (o + d * n)) = v + (a - o) by omega]
      · rw [if_neg (fun x => c2 x.2.2), if_neg (fun x => c2 x.2.2), a1, if_neg (by omega)]
    · rw [if_neg (fun x => c1 ⟨x.1, x.2.1⟩), a1]
      by_cases c2 : o ≤ a ∧ a < o + d * n ∧ g ((a - o) / d) (true, k, (a - o) % d) = true
      · rw [if_pos c2, if_pos ⟨c2.1, by omega, c2.2.2⟩]
      · rw [if_neg c2, if_neg (fun x => c2 ⟨x.1, by omega, x.2.2⟩)]
  · rw [b2, em]
    by_cases c1 : o + d * n ≤ a ∧ a < o + d * n + d
    · obtain ⟨e1, e2⟩ := dv_of (a := a) (x := a - o) (n := n) hd (by omega) (by omega)
      have e3 : a - o - d * n = a - (o + d * n) := by omega
      rw [e1, e2, e3]
      by_cases c2 : g n (false, k, a - (o + d * n)) = true
      · rw [if_pos ⟨c1.1, c1.2, c2⟩, if_pos ⟨by omega, by omega, c2⟩, a2, if_neg (by omega), show v + d * n + (a - (o + d * n)) = v + (a - o) by omega]
      · rw [if_neg (fun x => c2 x.2.2), if_neg (fun x => c2 x.2.2), a2, if_neg (by omega)]
    · rw [if_neg (fun x => c1 ⟨x.1, x.2.1⟩), a2]
      by_cases c2 : o ≤ a ∧ a < o + d * n ∧ g ((a - o) / d) (false, k, (a - o) % d) = true
      · rw [if_pos c2, if_pos ⟨c2.1, by omega, c2.2.2⟩]
      · rw [if_neg c2, if_neg (fun x => c2 ⟨x.1, by omega, x.2.2⟩)]
end zV1
def LBr : List zFd := [(true, 900, 1), (true, 901, 1), (true, 902, 1), (true, 903, 1), (true, 900, 2), (true, 901, 2), (true, 902, 2), (true, 903, 2), (false, 3, 0), (false, 4, 0), (true, 5, 0), (true, 6, 0), (true, 7, 0), (true, 8, 0)]
def LPo : List zFd := [(true, 900, 1), (true, 901, 1), (true, 902, 1), (true, 903, 1), (false, 401, 0), (true, 402, 0), (true, 403, 0), (true, 404, 0), (true, 405, 0), (true, 406, 0), (true, 407, 0), (true, 408, 0), (false, 409, 0), (false, 410, 0), (false, 411, 0), (false, 412, 0), (false, 413, 0), (false, 414, 0)]
def LMs : List zFd := [(false, 301, 0), (true, 900, 1), (true, 901, 1), (true, 902, 1), (true, 903, 1), (true, 302, 0), (false, 303, 0), (true, 304, 0), (true, 305, 0)]
def LMs0 : List zFd := [(false, 301, 0)]
theorem cp_B (o v : Nat) (μ : zM) : f0_copyFrom o v μ = some (cps LBr o v μ) := rfl
theorem cp_P (o v : Nat) (μ : zM) : f4_copyFrom o v μ = some (cps LPo o v μ) := rfl
theorem cp_M (o v : Nat) (μ : zM) : f3_copyFrom o v μ = some (cps (if gB μ 301 v = true then LMs else LMs0) o v μ) := by
  have e : gB (sB μ 301 o (gB μ 301 v)) 301 o = gB μ 301 v := by rw [gB_sB, if_pos ⟨rfl, rfl⟩]
  unfold f3_copyFrom
  simp only [wB, obs]
  rw [e]
  by_cases c : gB μ 301 v = true
  · rw [if_pos c, if_pos c]; rfl
  · rw [if_neg c, if_neg c]; rfl
