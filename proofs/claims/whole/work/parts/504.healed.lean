/-! WHETHER ALL IS HEALED -/
def Hld (N : zN) (S : zS) : Prop := ∀ l, l < nL N → upl N S l = true → lab N S (-1) (bo N (2 * l)) = lab N S (-1) (bo N (2 * l + 1))
section zE6
variable {N : zN} {s w o m B n A : Nat} {μ0 μ μ' ν0 ν ν' : zM} {S S' : zS} {a b c d e f i j k l r x y : Nat} {L W : Nat → Nat} {v : Int32}
theorem hl_E (nw : NW N) (h : ∀ l, l < nL N → upl N S l = true → L (bo N (2 * l)) = L (bo N (2 * l + 1))) : ∀ n, n ≤ 2 * nL N → ∀ k, pfold (we1 N S) n (w0 N S) k < 1000000 → L (k / 8) = L (k % 8)
  | 0, _, k, hk => by
    have hk : w0 N S k < 1000000 := hk
    unfold w0 at hk
    by_cases c : k / 8 = k % 8 ∧ k / 8 < nB N ∧ S 20 (k / 8) = 1
    · rw [c.1]
    · rw [if_neg c] at hk; omega
  | n + 1, hn, k, hk => by
    have ih := hl_E nw h n (by omega) k
    have hk : we1 N S n (pfold (we1 N S) n (w0 N S)) k < 1000000 := hk
    unfold we1 at hk
    by_cases c : up N S n = true ∧ k = 8 * bo N n + bo N (fe n)
    · have x2 := nw.bo_8 (fe_lt (show n < 2 * nL N by omega))
      rw [show k / 8 = bo N n by omega, show k % 8 = bo N (fe n) by omega]
      have hu := c.1
      rw [up_l] at hu
      have := h (n / 2) (by omega) hu
      unfold fe
      by_cases c2 : n % 2 = 0
      · rw [if_pos c2]
        have e1 : n = 2 * (n / 2) := by omega
        rw [← e1] at this
        exact this
      · rw [if_neg c2]
        have e1 : n = 2 * (n / 2) + 1 := by omega
        have e2 : n - 1 = 2 * (n / 2) := by omega
        rw [e2]
        rw [← e1] at this
        exact this.symm
    · rw [if_neg c] at hk
      exact ih hk
theorem hl_s (hW : ∀ k, W k < 1000000 → L (k / 8) = L (k % 8)) (hc : c < 8) : ∀ k, wst c W k < 1000000 → L (k / 8) = L (k % 8) := fun k hk => by
  unfold wst wad at hk
  by_cases c1 : W k < 1000000
  · exact hW k c1
  · by_cases c2 : W (8 * (k / 8) + c) < 1000000 ∧ W (8 * c + k % 8) < 1000000
    · have h1 := hW _ c2.1
      have h2 := hW _ c2.2
      rw [show (8 * (k / 8) + c) / 8 = k / 8 by omega, show (8 * (k / 8) + c) % 8 = c by omega] at h1
      rw [show (8 * c + k % 8) / 8 = c by omega, show (8 * c + k % 8) % 8 = k % 8 by omega] at h2
      exact h1.trans h2
    · rw [if_neg c2] at hk; omega
theorem hl_W (nw : NW N) (h : ∀ l, l < nL N → upl N S l = true → L (bo N (2 * l)) = L (bo N (2 * l + 1))) : ∀ n, n ≤ 8 → ∀ k, pfold wst n (wE N S) k < 1000000 → L (k / 8) = L (k % 8)
  | 0, _, k, hk => hl_E nw h (2 * nL N) (Nat.le_refl _) k hk
  | n + 1, hn, k, hk => hl_s (hl_W nw h n (by omega)) (by omega) k hk
theorem hl_iff (nw : NW N) : Hld N S ↔ ∀ a b, a < nB N → b < nB N → nr (wW N S) a b = true → lab N S (-1) a = lab N S (-1) b := by
  have b8 := nw.b8
  constructor
  · intro h a b ha hb hn
    rw [nr_iff] at hn
    have := hl_W nw h 8 (Nat.le_refl _) (8 * a + b) hn
    rw [show (8 * a + b) / 8 = a by omega, show (8 * a + b) % 8 = b by omega] at this
    exact this
  · intro h l hl hu
    refine h _ _ (nw.bo_b (show 2 * l < 2 * nL N by omega)) (nw.bo_b (show 2 * l + 1 < 2 * nL N by omega)) ?_
    rw [nr_iff]
    have := wW_up (e := 2 * l) nw (by omega) (by rw [up_l, show 2 * l / 2 = l by omega]; exact hu)
    rw [show fe (2 * l) = 2 * l + 1 by unfold fe; rw [if_pos (by omega)]] at this
    exact this
theorem C_hld (h : CS N s w μ μ S) (ho : Out o 3 s w) : ∃ r μ', f6_isHealed o s μ = some (r, μ') ∧ (r = true ↔ Hld N S) ∧ CS N s w μ' μ' S ∧ FrD o 3 μ μ' := by
  have nw := h.nw
  have l14 := nw.l14
  obtain ⟨μ1, e1, q1⟩ := C_lab (v := -1) h ho
  have l8 := lab_8 (S := S) (v := -1) nw (nL N) (Nat.le_refl _)
  have h1 := lpX (body := fun x => f6_isHealed_L1 o s μ1 x) (fun i (_ : Unit) => nI i) (fun i _ => ∀ l, l < i → upl N S l = true → lab N S (-1) (bo N (2 * l)) = lab N S (-1) (bo N (2 * l + 1))) (nL N) (fun a => a = (false, μ1) ∧ ¬ Hld N S) (fun _ => Hld N S) (by
    intro i x hi hm
    have start : f6_isHealed_L1 o s μ1 (nI i) = if (upl N S i && !(decide (lab N S (-1) (bo N (2 * i)) = lab N S (-1) (bo N (2 * i + 1))))) = true then some (.inr (.inl (false, μ1))) else some (.inl (nI (i + 1))) := by
      unfold f6_isHealed_L1
      rw [q1.1.1.c_wir, obs, q1.1.1.w_l, clt_nI (by omega) (by omega), decide_eq_true hi, if_pos rfl, mulQ2, C_up q1.1.1 (by omega), obs, obs, up_l, show 2 * i / 2 = i by omega, C_join _ q1.1.1 q1 l8 hi, obs, nI_1]
      cases upl N S i <;> cases decide (lab N S (-1) (bo N (2 * i)) = lab N S (-1) (bo N (2 * i + 1))) <;> rfl
    by_cases c : (upl N S i && !(decide (lab N S (-1) (bo N (2 * i)) = lab N S (-1) (bo N (2 * i + 1))))) = true
    · rw [if_pos c] at start
      rw [Bool.and_eq_true, Bool.not_eq_true', decide_eq_false_iff_not] at c
      exact Or.inr ⟨_, start, rfl, fun hM => c.2 (hM i hi c.1)⟩
    · rw [if_neg c] at start
      rw [Bool.and_eq_true, Bool.not_eq_true', decide_eq_false_iff_not] at c
      refine Or.inl ⟨(), start, fun l hl hu => ?_⟩
      by_cases cl : l = i
      · subst cl
        by_cases c3 : lab N S (-1) (bo N (2 * l)) = lab N S (-1) (bo N (2 * l + 1))
        · exact c3
        · exact absurd ⟨hu, c3⟩ c
      · exact hm l (by omega) hu) (by
    intro x hm
    refine ⟨nI (nL N), ?_, hm⟩
    show f6_isHealed_L1 o s μ1 (nI (nL N)) = _
    unfold f6_isHealed_L1
    rw [q1.1.1.c_wir, obs, q1.1.1.w_l, clt_nI (by omega) (by omega), decide_eq_false (by omega), if_neg (by decide)]) (nL N) 0 1000000 () (by omega) (by omega) (by omega) (fun b hb => absurd hb (by omega))
  unfold f6_isHealed
  rw [e1, obs]
  rcases h1 with ⟨a, e2, rfl, n2⟩ | ⟨r, e2, m2⟩
  · refine ⟨false, μ1, ?_, ⟨fun h => (nomatch h), fun h => absurd h n2⟩, q1.1⟩
    rw [show (0 : Int32) = nI 0 from rfl, e2]; rfl
  · refine ⟨true, μ1, ?_, ⟨fun _ => m2, fun _ => rfl⟩, q1.1⟩
    rw [show (0 : Int32) = nI 0 from rfl, e2]; rfl
theorem R_hld (q : MS N m B ν ν S) : ∃ r ν', f12_isHealed m ν = some (r, ν') ∧ (r = true ↔ Hld N S) ∧ MS N m B ν' ν' S ∧ FrD (m + 28) 2 ν ν' := by
  have nw := q.nw
  have l14 := nw.l14; have b8 := nw.b8
  obtain ⟨ν1, e1, q1⟩ := R_far q
  obtain ⟨ν2, e2, q2⟩ := R_parts (v := -1) q1.1
  have l8 := lab_8 (S := S) (v := -1) nw (nL N) (Nat.le_refl _)
  have l8 : ∀ b, b < 8 → lab N S (-1) b < 8 := l8
  have f2 : FrD (m + 28) 2 ν ν2 := fun a ha => (q1.2.1 a (by omega)).tr (q2.1.2 a (by omega))
  have w2 : ∀ k, k < 64 → gA ν2 (m + 28) k = nI (fI (wW N S k)) := fun k hk => by rw [(q2.1.2 (m + 28) (by omega)).2.2.2.1]; exact q1.2.2 k hk
  have nH : ¬ Hld N S ↔ ∃ a b, a < nB N ∧ b < nB N ∧ nr (wW N S) a b = true ∧ lab N S (-1) a ≠ lab N S (-1) b := by
    rw [hl_iff nw]
    constructor
    · intro h
      by_cases c : ∃ a b, a < nB N ∧ b < nB N ∧ nr (wW N S) a b = true ∧ lab N S (-1) a ≠ lab N S (-1) b
      · exact c
      · refine absurd (fun a b ha hb hn => ?_) h
        by_cases c2 : lab N S (-1) a = lab N S (-1) b
        · exact c2
        · exact absurd ⟨a, b, ha, hb, hn, c2⟩ c
    · intro ⟨a, b, ha, hb, hn, hne⟩ h
      exact hne (h a b ha hb hn)
  have L2 : ∀ a, a < nB N → (∃ x, zloop (fun s => f12_isHealed_L2 m ν2 (nI a) s) 1000000 (nI 0) = some (.inl x) ∧ (x = (false, ν2) ∧ ¬ Hld N S)) ∨ ∃ r, zloop (fun s => f12_isHealed_L2 m ν2 (nI a) s) 1000000 (nI 0) = some (.inr r) ∧ ∀ b, b < nB N → nr (wW N S) a b = true → lab N S (-1) a = lab N S (-1) b := fun a ha =>
    lpX (body := fun s => f12_isHealed_L2 m ν2 (nI a) s) (fun i (_ : Unit) => nI i) (fun i _ => ∀ b, b < i → nr (wW N S) a b = true → lab N S (-1) a = lab N S (-1) b) (nB N) (fun x => x = (false, ν2) ∧ ¬ Hld N S) (fun _ => ∀ b, b < nB N → nr (wW N S) a b = true → lab N S (-1) a = lab N S (-1) b) (by
      intro i x hi hm
      have y1 := l8 a (by omega); have y2 := l8 i (by omega)
      have start : f12_isHealed_L2 m ν2 (nI a) (nI i) = if (nr (wW N S) a i && !(decide (lab N S (-1) a = lab N S (-1) i))) = true then some (.inr (.inl (false, ν2))) else some (.inl (nI (i + 1))) := by
        unfold f12_isHealed_L2
        rw [q2.1.1.g_b, clt_nI (by omega) (by omega), decide_eq_true hi, if_pos rfl, mulQ8, nI_add, rA_nI (by omega) (by omega), obs, obs, w2 _ (by omega), fI_cl (wW_b nw), show decide (wW N S (8 * a + i) < 1000000) = nr (wW N S) a i from rfl, rA_nI (by omega) (by omega), obs, rA_nI (by omega) (by omega), obs, q2.2 a (by omega), q2.2 i (by omega), ceq_nI (by omega) (by omega), nI_1]
        cases nr (wW N S) a i <;> cases decide (lab N S (-1) a = lab N S (-1) i) <;> rfl
      by_cases c : (nr (wW N S) a i && !(decide (lab N S (-1) a = lab N S (-1) i))) = true
      · rw [if_pos c] at start
        rw [Bool.and_eq_true, Bool.not_eq_true', decide_eq_false_iff_not] at c
        exact Or.inr ⟨_, start, rfl, nH.mpr ⟨a, i, ha, hi, c.1, c.2⟩⟩
      · rw [if_neg c] at start
        rw [Bool.and_eq_true, Bool.not_eq_true', decide_eq_false_iff_not] at c
        refine Or.inl ⟨(), start, fun b hb hn => ?_⟩
        by_cases cl : b = i
        · subst cl
          by_cases c3 : lab N S (-1) a = lab N S (-1) b
          · exact c3
          · exact absurd ⟨hn, c3⟩ c
        · exact hm b (by omega) hn) (by
      intro x hm
      refine ⟨nI (nB N), ?_, hm⟩
      show f12_isHealed_L2 m ν2 (nI a) (nI (nB N)) = _
      unfold f12_isHealed_L2
      rw [q2.1.1.g_b, clt_nI (by omega) (by omega), decide_eq_false (by omega), if_neg (by decide)]) (nB N) 0 1000000 () (by omega) (by omega) (by omega) (fun b hb => absurd hb (by omega))
  have h1 := lpX (body := fun s => f12_isHealed_L1 m ν2 s) (fun i (_ : Unit) => nI i) (fun i _ => ∀ a b, a < i → b < nB N → nr (wW N S) a b = true → lab N S (-1) a = lab N S (-1) b) (nB N) (fun x => x = (false, ν2) ∧ ¬ Hld N S) (fun _ => Hld N S) (by
    intro i x hi hm
    have start : f12_isHealed_L1 m ν2 (nI i) = ((zloop (fun s => f12_isHealed_L2 m ν2 (nI i) s) 1000000 (nI 0)).bind fun r11 => Sum.elim (fun v => some (.inr (.inl v))) (zq1 fun v_b_7 => (some (nI i + 1)).bind fun v_a_14 => some (.inl v_a_14)) r11) := by
      unfold f12_isHealed_L1
      rw [q2.1.1.g_b, clt_nI (by omega) (by omega), decide_eq_true hi, if_pos rfl]; rfl
    rcases L2 i hi with ⟨a, e3, h3⟩ | ⟨r, e3, h3⟩
    · rw [e3] at start
      exact Or.inr ⟨a, start, h3⟩
    · rw [e3] at start
      refine Or.inl ⟨(), start.trans (by rw [← nI_1]; rfl), fun a b ha hb hn => ?_⟩
      by_cases c : a = i
      · subst c; exact h3 b hb hn
      · exact hm a b (by omega) hb hn) (by
    intro x hm
    refine ⟨nI (nB N), ?_, (hl_iff nw).mpr hm⟩
    show f12_isHealed_L1 m ν2 (nI (nB N)) = _
    unfold f12_isHealed_L1
    rw [q2.1.1.g_b, clt_nI (by omega) (by omega), decide_eq_false (by omega), if_neg (by decide)]) (nB N) 0 1000000 () (by omega) (by omega) (by omega) (fun a b ha => absurd ha (by omega))
  unfold f12_isHealed
  rw [e1, obs, e2, ozb2]
  rcases h1 with ⟨a, e3, rfl, n3⟩ | ⟨r, e3, m3⟩
  · refine ⟨false, ν2, ?_, ⟨fun h => (nomatch h), fun h => absurd h n3⟩, q2.1.1, f2⟩
    rw [show (0 : Int32) = nI 0 from rfl, e3]; rfl
  · refine ⟨true, ν2, ?_, ⟨fun _ => m3, fun _ => rfl⟩, q2.1.1, f2⟩
    rw [show (0 : Int32) = nI 0 from rfl, e3]; rfl
end zE6
