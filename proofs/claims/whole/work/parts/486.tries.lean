/-! THE REFERENCE COPIES ROWS -/
def cpW (μ : zM) (s d E D n : Nat) : zM := (μ.1, fun a j => if a = d ∧ D ≤ j ∧ j < D + n then gA μ s (E + (j - D)) else gA μ a j, μ.2.2.1, μ.2.2.2.1, μ.2.2.2.2.1, μ.2.2.2.2.2)
section zV4
variable {N : zN} {m B : Nat} {μ ν ν' ν0 : zM} {S : zS} {s d E D n k a j : Nat}
theorem gA_cpW : gA (cpW μ s d E D n) a j = if a = d ∧ D ≤ j ∧ j < D + n then gA μ s (E + (j - D)) else gA μ a j := rfl
theorem cpW_0 : cpW μ s d E D 0 = μ := by
  unfold cpW
  have : (fun a j => if a = d ∧ D ≤ j ∧ j < D + 0 then gA μ s (E + (j - D)) else gA μ a j) = μ.2.1 := by
    funext a j
    rw [if_neg (by omega)]; rfl
  rw [this]
theorem cpW_s (h : s ≠ d ∨ D ≤ E ∨ E + k < D) : sA (cpW μ s d E D k) d (D + k) (gA (cpW μ s d E D k) s (E + k)) = cpW μ s d E D (k + 1) := by
  have e : gA (cpW μ s d E D k) s (E + k) = gA μ s (E + k) := by rw [gA_cpW, if_neg (by omega)]
  rw [e]
  unfold cpW sA
  congr 2
  funext a j
  show (if a = d ∧ j = D + k then gA μ s (E + k) else if a = d ∧ D ≤ j ∧ j < D + k then gA μ s (E + (j - D)) else gA μ a j) = _
  by_cases c : a = d ∧ j = D + k
  · rw [if_pos c, if_pos (by omega), c.2, show E + (D + k - D) = E + k by omega]
  · rw [if_neg c]
    by_cases c2 : a = d ∧ D ≤ j ∧ j < D + k
    · rw [if_pos c2, if_pos (by omega)]
    · rw [if_neg c2, if_neg (by omega)]
/-- a loop that copies a row -/
theorem lpR {body : Int32 × zM → Option ((Int32 × zM) ⊕ (Int32 × zM))} (n : Nat) (hn : n < 1000000) (h : ∀ k, k < n → s ≠ d ∨ D ≤ E ∨ E + k < D)
    (hs : ∀ k, k < n → body (nI k, cpW μ s d E D k) = some (.inl (nI (k + 1), sA (cpW μ s d E D k) d (D + k) (gA (cpW μ s d E D k) s (E + k)))))
    (ho : body (nI n, cpW μ s d E D n) = some (.inr (nI n, cpW μ s d E D n))) : zloop body 1000000 (0, μ) = some (nI n, cpW μ s d E D n) := by
  obtain ⟨μ', e, q⟩ := lp (Q := fun μ' k => μ' = cpW μ s d E D k) (body := body) nI (fun i (_ : Nat) => i + 1) n (S := 0) (μ := μ) (x0 := 0) (by
    intro i μ1 hi q1
    rw [pf_n] at q1
    subst q1
    exact ⟨_, hs i hi, cpW_s (h i hi)⟩) (by
    intro μ1 q1
    rw [pf_n] at q1
    subst q1
    exact ho) hn cpW_0.symm
  rw [pf_n] at q
  rw [e, q]
theorem R_tries : f12_tries m ν = some (sF (cpW ν (m + 24) (m + 24) 0 2874 2874) 1244 m 2874) := by
  have e := lpR (μ := ν) (s := m + 24) (d := m + 24) (E := 0) (D := 2874) (body := fun s => f12_tries_L1 m s.1 s.2) 2874 (by omega) (fun k hk => by omega) (by
    intro k hk
    show f12_tries_L1 m (nI k) _ = _
    have z : (0 : Int32) + nI k = nI (0 + k) := by rw [← nI_add]; rfl
    have z2 : (2874 : Int32) + nI k = nI (2874 + k) := by rw [← nI_add]; rfl
    have c : clt (nI k) 2874 = true := by
      show clt (nI k) (nI 2874) = true
      rw [clt_nI (by omega) (by omega)]; exact decide_eq_true hk
    unfold f12_tries_L1
    rw [c, if_pos rfl, z, z2, rA_nI (by omega) (by omega), obs, wA_nI (by omega) (by omega), obs, obs, nI_1]) (by
    show f12_tries_L1 m (nI 2874) _ = _
    have c : clt (nI 2874) 2874 = false := by decide
    unfold f12_tries_L1
    rw [c, if_neg Bool.false_ne_true])
  unfold f12_tries
  rw [e, ozb2]
  simp only [wF, obs]
theorem M0.tries (h : M0 N m 0 ν S) : MS N m 2874 (sF (cpW ν (m + 24) (m + 24) 0 2874 2874) 1244 m 2874) (sF (cpW ν (m + 24) (m + 24) 0 2874 2874) 1244 m 2874) S ∧ M0 N m 0 (sF (cpW ν (m + 24) (m + 24) 0 2874 2874) 1244 m 2874) S := by
  have hA : ∀ a j, a ≠ m + 24 → gA (sF (cpW ν (m + 24) (m + 24) 0 2874 2874) 1244 m 2874) a j = gA ν a j := fun a j ha => by
    rw [gA_sF, gA_cpW, if_neg (fun x => ha x.1)]
  have hF : ∀ k, k ≠ 1244 → gF (sF (cpW ν (m + 24) (m + 24) 0 2874 2874) 1244 m 2874) k m = gF ν k m := fun k hk => by
    rw [gF_sF, if_neg (fun x => hk x.1)]; rfl
  refine ⟨M0.ms ⟨h.1.ro h.2.2.1 (fun k hk => ?_), h.2.1, h.2.2.1, h.2.2.2.mv (fun k h1 h2 => hF k (by omega)) (fun d j h1 h2 => hA _ _ (by omega))⟩ (by rw [gF_sF, if_pos ⟨rfl, rfl⟩]; rfl) (Or.inr rfl), h.mv (fun k h1 h2 => hF k (by omega)) (fun d j h1 h2 => hA _ _ (by omega)) (fun j h1 h2 => ?_) (fun j => hA _ _ (by omega)) (fun j => hA _ _ (by omega))⟩
  · unfold rw_
    by_cases c : k < 3000
    · rw [if_pos c, if_pos c, gA_sF, gA_cpW, if_pos (by omega), show 0 + (2874 + k - 2874) = 0 + k by omega]
    · rw [if_neg c, if_neg c, hA _ _ (by omega), hA _ _ (by omega)]
  · rw [gA_sF, gA_cpW, if_neg (by omega)]
end zV4
