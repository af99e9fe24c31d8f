/-! THE CENTRE -/
section zE0
variable {N : zN} {s w o m B n : Nat} {μ0 μ μ' ν0 ν ν' : zM} {S S' : zS} {a b c d e f i j k l r p : Nat} {W : Nat → Nat}
/-- what is near is on -/
theorem wE_on : ∀ n, ∀ k, pfold (we1 N S) n (w0 N S) k < 1000000 → k < 64 → (∀ e, e < n → bo N e < 8 ∧ bo N (fe e) < 8) → S 20 (k / 8) = 1
  | 0, k, h, hk, _ => by
    have h : w0 N S k < 1000000 := h
    unfold w0 at h
    by_cases c : k / 8 = k % 8 ∧ k / 8 < nB N ∧ S 20 (k / 8) = 1
    · exact c.2.2
    · rw [if_neg c] at h; omega
  | n + 1, k, h, hk, hb => by
    have ih := wE_on n k
    have h : we1 N S n (pfold (we1 N S) n (w0 N S)) k < 1000000 := h
    unfold we1 at h
    by_cases c : up N S n = true ∧ k = 8 * bo N n + bo N (fe n)
    · have := hb n (by omega)
      rw [show k / 8 = bo N n by omega]
      exact up_on c.1
    · rw [if_neg c] at h
      exact ih h hk (fun e he => hb e (by omega))
theorem wst_on (hW : ∀ k, W k < 1000000 → k < 64 → S 20 (k / 8) = 1) (hc : c < 8) : ∀ k, wst c W k < 1000000 → k < 64 → S 20 (k / 8) = 1 := fun k h hk => by
  unfold wst wad at h
  by_cases c1 : W k < 1000000
  · exact hW k c1 hk
  · by_cases c2 : W (8 * (k / 8) + c) < 1000000 ∧ W (8 * c + k % 8) < 1000000
    · have := hW _ c2.1 (by omega)
      rw [show (8 * (k / 8) + c) / 8 = k / 8 by omega] at this
      exact this
    · rw [if_neg c2] at h; omega
theorem wW_on2 (nw : NW N) : ∀ n, n ≤ 8 → ∀ k, pfold wst n (wE N S) k < 1000000 → k < 64 → S 20 (k / 8) = 1
  | 0, _, k, h, hk => wE_on (2 * nL N) k h hk (fun e he => ⟨nw.bo_8 he, nw.bo_8 (fe_lt he)⟩)
  | n + 1, hn, k, h, hk => wst_on (wW_on2 nw n (by omega)) (by omega) k h hk
theorem wW_off (nw : NW N) (hb : b < 8) (hc : c < 8) (h : S 20 b ≠ 1) : nr (wW N S) b c = false := by
  cases hh : nr (wW N S) b c with
  | false => rfl
  | true =>
    rw [nr_iff] at hh
    have := wW_on2 (S := S) nw 8 (Nat.le_refl _) (8 * b + c) hh (by omega)
    rw [show (8 * b + c) / 8 = b by omega] at this
    exact absurd this h
/-- how many are near to `b`, and the sum of the ways to them -/
def cnj (W : Nat → Nat) (b c : Nat) (x : Nat × Nat) : Nat × Nat := if nr W b c = true then (x.1 + 1, x.2 + W (8 * b + c)) else x
def cj (N : zN) (W : Nat → Nat) (b : Nat) : Nat × Nat := pfold (cnj W b) (nB N) (0, 0)
def cenF (N : zN) (S : zS) (W : Nat → Nat) (b : Nat) (x : Option Nat) : Option Nat := if ceq (S 20 b) 1 = true then (match x with
  | none => some b
  | some a => if (decide ((cj N W a).1 < (cj N W b).1) || (decide ((cj N W b).1 = (cj N W a).1) && decide ((cj N W b).2 < (cj N W a).2))) = true then some b else some a) else x
def cen (N : zN) (S : zS) : Option Nat := pfold (cenF N S (wW N S)) (nB N) none
theorem cnj_b (hW : ∀ k, W k < 1000000 → W k ≤ 51200) : ∀ n, (pfold (cnj W b) n (0, 0)).1 ≤ n ∧ (pfold (cnj W b) n (0, 0)).2 ≤ 51200 * n
  | 0 => ⟨Nat.le_refl _, Nat.le_refl _⟩
  | n + 1 => by
    obtain ⟨i1, i2⟩ := cnj_b hW n
    have e : pfold (cnj W b) (n + 1) (0, 0) = cnj W b n (pfold (cnj W b) n (0, 0)) := rfl
    rw [e]
    unfold cnj at *
    by_cases c : nr W b n = true
    · rw [if_pos c]
      have := hW (8 * b + n) (nr_iff.mp c)
      exact ⟨by show _ + 1 ≤ _; omega, by show _ + _ ≤ _; omega⟩
    · rw [if_neg c]; exact ⟨by omega, by omega⟩
theorem cnj_1 (hb : nr W b b = true) : ∀ n, b < n → 1 ≤ (pfold (cnj W b) n (0, 0)).1
  | 0, h => absurd h (by omega)
  | n + 1, h => by
    have e : pfold (cnj W b) (n + 1) (0, 0) = cnj W b n (pfold (cnj W b) n (0, 0)) := rfl
    rw [e]
    by_cases c : b < n
    · have := cnj_1 hb n c
      unfold cnj
      split
      · show 1 ≤ _ + 1; omega
      · exact this
    · rw [show n = b by omega]
      unfold cnj
      rw [if_pos hb]
      show 1 ≤ _ + 1; omega
theorem cnj_0 : ∀ n, (∀ c, c < n → nr W b c = false) → pfold (cnj W b) n (0, 0) = (0, 0)
  | 0, _ => rfl
  | n + 1, h => by
    have e : pfold (cnj W b) (n + 1) (0, 0) = cnj W b n (pfold (cnj W b) n (0, 0)) := rfl
    rw [e, cnj_0 n (fun c hc => h c (by omega))]
    unfold cnj
    rw [h n (by omega), if_neg (by decide)]
theorem C_cen2 (q : DQ N s w o S μ0 μ W) (hb : b < nB N) (hW : ∀ k, W k ≤ 1000000 ∧ (W k < 1000000 → W k ≤ 51200)) : zloop (fun x => f1_findCentre_L2 o s (nI b) μ x.1 x.2.1 x.2.2) 1000000 (0, 0, 0) = some (nI (cj N W b).1, nI (cj N W b).2, nI (nB N)) := by
  have nw := q.1.nw
  have b8 := nw.b8
  have key := zloop_up (body := fun x => f1_findCentre_L2 o s (nI b) μ x.1 x.2.1 x.2.2) (fun i (_ : Unit) => (nI (pfold (cnj W b) i (0, 0)).1, nI (pfold (cnj W b) i (0, 0)).2, nI i)) (fun _ _ => True) (nB N) (fun r => r = (nI (cj N W b).1, nI (cj N W b).2, nI (nB N))) (by
    intro i x hi _
    refine ⟨(), ?_, trivial⟩
    have e : pfold (cnj W b) (i + 1) (0, 0) = cnj W b i (pfold (cnj W b) i (0, 0)) := rfl
    rw [e]
    generalize pfold (cnj W b) i (0, 0) = y at *
    show f1_findCentre_L2 o s (nI b) μ (nI y.1) (nI y.2) (nI i) = _
    have h1 := hW (8 * b + i)
    have ec : clt (nI (W (8 * b + i))) 1000000 = nr W b i := by
      show clt (nI _) (nI 1000000) = _
      rw [clt_nI (by omega) (by omega)]; rfl
    unfold f1_findCentre_L2 cnj
    rw [q.1.c_wir, obs, q.1.w_b, clt_nI (by omega) (by omega), decide_eq_true hi, if_pos rfl, mulR8, nI_add, rA_nI (by omega) (by omega), obs, q.2.2 _ (by omega), show b * 8 + i = 8 * b + i by omega, ec]
    by_cases c : nr W b i = true
    · rw [if_pos c, if_pos c, obs, obs, obs, obs, nI_1, nI_add, nI_1]
    · rw [if_neg c, if_neg c, obs, nI_1]) (by
    intro x _
    refine ⟨_, ?_, rfl⟩
    show f1_findCentre_L2 o s (nI b) μ (nI (cj N W b).1) (nI (cj N W b).2) (nI (nB N)) = _
    unfold f1_findCentre_L2
    rw [q.1.c_wir, obs, q.1.w_b, clt_nI (by omega) (by omega), decide_eq_false (by omega), if_neg (by decide)]) (nB N) 0 1000000 () (by omega) (by omega) (by omega) trivial
  obtain ⟨r, e1, rfl⟩ := key
  exact e1
theorem R_cen2 (q : EQ N m B S ν0 ν W) (hb : b < nB N) (hW : ∀ k, W k ≤ 1000000 ∧ (W k < 1000000 → W k ≤ 51200)) : zloop (fun x => f12_centre_L2 m ν (nI b) x.1 x.2.1 x.2.2) 1000000 (0, 0, 0) = some (nI (cj N W b).1, nI (cj N W b).2, nI (nB N)) := by
  have nw := q.1.nw
  have b8 := nw.b8
  have key := zloop_up (body := fun x => f12_centre_L2 m ν (nI b) x.1 x.2.1 x.2.2) (fun i (_ : Unit) => (nI (pfold (cnj W b) i (0, 0)).1, nI (pfold (cnj W b) i (0, 0)).2, nI i)) (fun _ _ => True) (nB N) (fun r => r = (nI (cj N W b).1, nI (cj N W b).2, nI (nB N))) (by
    intro i x hi _
    refine ⟨(), ?_, trivial⟩
    have e : pfold (cnj W b) (i + 1) (0, 0) = cnj W b i (pfold (cnj W b) i (0, 0)) := rfl
    rw [e]
    generalize pfold (cnj W b) i (0, 0) = y at *
    show f12_centre_L2 m ν (nI b) (nI y.1) (nI y.2) (nI i) = _
    unfold f12_centre_L2 cnj
    rw [q.1.g_b, clt_nI (by omega) (by omega), decide_eq_true hi, if_pos rfl, mulQ8, nI_add, rA_nI (by omega) (by omega), obs, q.2.2 _ (by omega), fI_cl (hW _).1, show decide (W (8 * b + i) < 1000000) = nr W b i from rfl]
    by_cases c : nr W b i = true
    · rw [if_pos c, if_pos c, fI_id (nr_iff.mp c), obs, obs, obs, obs, nI_1, nI_add, nI_1]
    · rw [if_neg c, if_neg c, obs, nI_1]) (by
    intro x _
    refine ⟨_, ?_, rfl⟩
    show f12_centre_L2 m ν (nI b) (nI (cj N W b).1) (nI (cj N W b).2) (nI (nB N)) = _
    unfold f12_centre_L2
    rw [q.1.g_b, clt_nI (by omega) (by omega), decide_eq_false (by omega), if_neg (by decide)]) (nB N) 0 1000000 () (by omega) (by omega) (by omega) trivial
  obtain ⟨r, e1, rfl⟩ := key
  exact e1
end zE0
