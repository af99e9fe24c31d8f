/-! THE EASY METHODS: tape, refusals, fault, seed, image's bytes -/
def rT (x m : Nat) (μ ν : zM) : Prop := (∃ n, n ≤ 1600 ∧ gF μ 1113 x = nI n ∧ gF ν 1232 m = nI n) ∧ ∀ j, j < 1600 → gA μ (x + 1) j = gA ν (m + 21) j
def rR (x m : Nat) (μ ν : zM) : Prop := ∀ k, k < 6 → gA μ (x + 22) k = gA ν (m + 22) k
def rFt (x m : Nat) (μ ν : zM) : Prop := gF μ 507 (x + 49) = gF ν 1234 m ∧ gF μ 508 (x + 49) = gF ν 1235 m
def rSd (x m : Nat) (μ ν : zM) : Prop := gF μ 1117 x = gF ν 1264 m ∧ ¬ gF μ 1117 x < 0
def rIm (x m : Nat) (μ ν : zM) : Prop := ∃ n, n ≤ 47 ∧ gF μ 1116 x = nI n ∧ gF ν 1266 m = nI n ∧ ∀ j, j < n → gA μ (x + 21) j = gA ν (m + 36) j
theorem v11_refuse {x k : Nat} {μ : zM} (hk : k < 6) : f11_refuse x (nI k) μ = some (-1, sA μ (x + 22) k (gA μ (x + 22) k + 1)) := by
  simp only [f11_refuse, rA_nI hk (by omega), wA_nI hk (by omega : 6 < 2 ^ 31), Option.bind_some]
theorem v11_refuses {x k : Nat} {μ : zM} (hk : k < 6) : f11_refuses x (nI k) μ = some (false, sA μ (x + 22) k (gA μ (x + 22) k + 1)) := by
  simp only [f11_refuses, rA_nI hk (by omega), wA_nI hk (by omega : 6 < 2 ^ 31), Option.bind_some]
theorem v12_refuses {m k : Nat} {ν : zM} (hk : k < 6) : f12_refuses m (nI k) ν = some (-1, sA ν (m + 22) k (gA ν (m + 22) k + 1)) := by
  simp only [f12_refuses, rA_nI hk (by omega), wA_nI hk (by omega : 6 < 2 ^ 31), Option.bind_some]
theorem v12_isRefused {m k : Nat} {ν : zM} (hk : k < 6) : f12_isRefused m (nI k) ν = some (false, sA ν (m + 22) k (gA ν (m + 22) k + 1)) := by
  simp only [f12_isRefused, rA_nI hk (by omega), wA_nI hk (by omega : 6 < 2 ^ 31), Option.bind_some]
theorem rR_up {x m k : Nat} {μ ν : zM} (h : rR x m μ ν) (hk : k < 6) : rR x m (sA μ (x + 22) k (gA μ (x + 22) k + 1)) (sA ν (m + 22) k (gA ν (m + 22) k + 1)) := by
  intro j hj
  simp only [gA_sA]
  by_cases e : j = k
  · subst e; simp [h j hj]
  · simp [e, h j hj]
theorem q_fault {x m : Nat} {μ ν : zM} (h : rFt x m μ ν) (w : Int32) : ∃ r, f11_fault x w μ = some r ∧ f12_fault m w ν = some r := by
  unfold f11_fault f12_fault
  rw [h.1, h.2]
  cases ceq w 0 <;> cases ceq w 1 <;> simp
theorem v12_isIn (v lo hi : Int32) (ν : zM) : f12_isIn v lo hi ν = some ((!(clt v lo)) && (!(clt hi v))) := rfl
theorem rI_of {n : Nat} {i : Int32} (h1 : clt i 0 = false) (h2 : clt i (nI n) = true) (hn : n < 2 ^ 31) : ∃ j, j < n ∧ i = nI j := by
  obtain ⟨j, hj, rfl⟩ := nI_of (of_decide_eq_false h1)
  exact ⟨j, by rw [clt_nI hj hn] at h2; exact of_decide_eq_true h2, rfl⟩
theorem clt_le {i : Int32} {n : Nat} (hn : n + 1 < 2 ^ 31) : (!clt (nI n) i) = clt i (nI (n + 1)) := by
  unfold clt
  have a1 := nI_toInt (n := n) (by omega)
  have a2 := nI_toInt (n := n + 1) (by omega)
  by_cases h : nI n < i
  · have h2 : ¬ i < nI (n + 1) := by
      rw [Int32.lt_iff_toInt_lt] at h ⊢
      omega
    simp [h, h2]
  · have h2 : i < nI (n + 1) := by
      rw [Int32.lt_iff_toInt_lt] at h ⊢
      omega
    simp [h, h2]
theorem q_status {x m : Nat} {μ ν : zM} (h : rR x m μ ν) (w : Int32) : ∃ r, f11_status x w μ = some r ∧ f12_status m w ν = some r := by
  unfold f11_status f12_status
  rw [v12_isIn, show (5 : Int32) = nI 5 from rfl, clt_le (by omega), show (6 : Int32) = nI 6 from rfl]
  cases h1 : clt w 0 with
  | true => exact ⟨-1, by simp, by simp⟩
  | false =>
    cases h2 : clt w (nI 6) with
    | false => exact ⟨-1, by simp [h2], by simp [h2]⟩
    | true =>
      obtain ⟨j, hj, rfl⟩ := rI_of h1 h2 (by omega)
      refine ⟨gA μ (x + 22) j, ?_, ?_⟩
      · simp [h2, rA_nI hj]
      · simp [h2, rA_nI hj, h j hj]
theorem q_octet {x m : Nat} {μ ν : zM} (h : rIm x m μ ν) (w : Int32) : ∃ r, f11_octet x w μ = some r ∧ f12_octet m w ν = some r := by
  obtain ⟨n, hn, e1, e2, h3⟩ := h
  unfold f11_octet f12_octet
  rw [v12_isIn, e1, e2]
  cases h1 : clt w 0 with
  | true => exact ⟨-1, by simp, by simp⟩
  | false =>
    cases n with
    | zero =>
      have h2 : clt w (nI 0) = false := h1
      have h4 : clt (nI 0 - 1) w = true := by
        obtain ⟨j, hj, rfl⟩ := nI_of (of_decide_eq_false h1)
        unfold clt
        rw [decide_eq_true_iff, Int32.lt_iff_toInt_lt, nI_toInt hj]
        have : (nI 0 - 1).toInt = -1 := by decide
        omega
      exact ⟨-1, by simp [h2], by simp [h4]⟩
    | succ n =>
      rw [nI_pred, clt_le (by omega)]
      cases h2 : clt w (nI (n + 1)) with
      | false => exact ⟨-1, by simp, by simp⟩
      | true =>
        obtain ⟨j, hj, rfl⟩ := rI_of h1 h2 (by omega)
        have hj2 : j < 47 := by omega
        refine ⟨gA μ (x + 21) j, ?_, ?_⟩
        · simp [rA_nI hj2]
        · simp [rA_nI hj2, h3 j hj]
