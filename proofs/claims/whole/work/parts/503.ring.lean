/-! RINGS: the least bridge on one -/
def qul (N : zN) (S : zS) (l : Nat) : Bool := opn S l && decide (lab N S (nI l) (bo N (2 * l)) = lab N S (nI l) (bo N (2 * l + 1)))
def fr1 (N : zN) (S : zS) (l : Nat) (x : Option Nat) : Option Nat := if qul N S l = true then (match x with
  | none => some (min (bo N (2 * l)) (bo N (2 * l + 1)))
  | some y => some (min y (min (bo N (2 * l)) (bo N (2 * l + 1))))) else x
def isRg (N : zN) (S : zS) (n : Nat) (x : Option Nat) : Prop := match x with
  | none => ∀ l, l < n → qul N S l = false
  | some y => (∃ l, l < n ∧ qul N S l = true ∧ (bo N (2 * l) = y ∨ bo N (2 * l + 1) = y)) ∧ ∀ l, l < n → qul N S l = true → y ≤ bo N (2 * l) ∧ y ≤ bo N (2 * l + 1)
section zE5
variable {N : zN} {s w o m B n A : Nat} {μ0 μ μ' ν0 ν ν' : zM} {S S' : zS} {a b c d e f i j k l r x y : Nat} {L : Nat → Nat} {v : Int32}
theorem fr1_no (h : qul N S l = false) (x : Option Nat) : fr1 N S l x = x := by unfold fr1; rw [h, if_neg (by decide)]
theorem fr1_n (h : qul N S l = true) : fr1 N S l none = some (min (bo N (2 * l)) (bo N (2 * l + 1))) := by unfold fr1; rw [if_pos h]
theorem fr1_s (h : qul N S l = true) : fr1 N S l (some y) = some (min y (min (bo N (2 * l)) (bo N (2 * l + 1)))) := by unfold fr1; rw [if_pos h]
theorem rg_fold : ∀ n, isRg N S n (pfold (fr1 N S) n none)
  | 0 => fun l h => absurd h (by omega)
  | n + 1 => by
    have ih := rg_fold n
    show isRg N S (n + 1) (fr1 N S n (pfold (fr1 N S) n none))
    generalize pfold (fr1 N S) n none = z at *
    cases hq : qul N S n with
    | false =>
      rw [fr1_no hq]
      cases z with
      | none =>
        intro l hl
        by_cases c : l = n
        · rw [c]; exact hq
        · exact ih l (by omega)
      | some y =>
        obtain ⟨⟨l, h1, h2⟩, h3⟩ := ih
        refine ⟨⟨l, by omega, h2⟩, fun l hl hl2 => ?_⟩
        by_cases c : l = n
        · rw [c, hq] at hl2; cases hl2
        · exact h3 l (by omega) hl2
    | true =>
      cases z with
      | none =>
        rw [fr1_n hq]
        refine ⟨⟨n, by omega, hq, by omega⟩, fun l hl hl2 => ?_⟩
        by_cases c : l = n
        · rw [c]; omega
        · rw [ih l (by omega)] at hl2; cases hl2
      | some y =>
        rw [fr1_s hq]
        obtain ⟨⟨l, h1, h2, h4⟩, h3⟩ := ih
        refine ⟨?_, fun l' hl' hl2 => ?_⟩
        · by_cases c : y ≤ min (bo N (2 * n)) (bo N (2 * n + 1))
          · exact ⟨l, by omega, h2, by omega⟩
          · exact ⟨n, by omega, hq, by omega⟩
        · by_cases c : l' = n
          · rw [c]; omega
          · have := h3 l' (by omega) hl2
            omega
theorem rg_u {x y : Option Nat} (h1 : isRg N S n x) (h2 : isRg N S n y) : x = y := by
  cases x with
  | none =>
    cases y with
    | none => rfl
    | some b =>
      obtain ⟨⟨l, a1, a2, _⟩, _⟩ := h2
      rw [h1 l a1] at a2; cases a2
  | some a =>
    obtain ⟨⟨l, a1, a2, a3⟩, a4⟩ := h1
    cases y with
    | none => rw [h2 l a1] at a2; cases a2
    | some b =>
      obtain ⟨⟨l', b1, b2, b3⟩, b4⟩ := h2
      have := a4 l' b1 b2
      have := b4 l a1 a2
      congr 1
      omega
theorem C_join (K : zM → Prop) (h : CS N s w μ0 μ S) (q : LQ K (o + 1) μ L) (hL : ∀ b, b < 8 → L b < 8) (hl : l < nL N) : f6_areJoined o s (nI l) μ = some (decide (L (bo N (2 * l)) = L (bo N (2 * l + 1)))) := by
  have nw := h.nw
  have l14 := nw.l14
  have x1 := nw.bo_8 (show 2 * l < 2 * nL N by omega)
  have x2 := nw.bo_8 (show 2 * l + 1 < 2 * nL N by omega)
  have y1 := hL _ x1; have y2 := hL _ x2
  unfold f6_areJoined
  rw [h.c_wir, obs, mulQ2, h.w_bo (by omega), obs, rA_nI x1 (by omega), obs, obs, nI_1, h.w_bo (by omega), obs, rA_nI x2 (by omega), obs, q.2 _ x1, q.2 _ x2, ceq_nI (by omega) (by omega), obs]
def rgN (N : zN) (S : zS) : Option Nat := pfold (fr1 N S) (nL N) none
theorem C_first (h : CS N s w μ μ S) (ho : Out o 3 s w) : ∃ μ', f6_firstOnRing o s μ = some (oI (rgN N S), μ') ∧ CS N s w μ' μ' S ∧ FrD o 3 μ μ' := by
  have nw := h.nw
  have l14 := nw.l14; have b8 := nw.b8
  have lt : ∀ n, n ≤ nL N → ∀ y, pfold (fr1 N S) n none = some y → y < 8 := fun n hn y hy => by
    have := rg_fold (N := N) (S := S) n
    rw [hy] at this
    obtain ⟨⟨l, h1, h2, h3⟩, _⟩ := this
    have x1 := nw.bo_8 (show 2 * l < 2 * nL N by omega)
    have x2 := nw.bo_8 (show 2 * l + 1 < 2 * nL N by omega)
    omega
  obtain ⟨r, e, h1⟩ := zloop_up (body := fun q => f6_firstOnRing_L1 o s q.1 q.2.1 q.2.2) (fun i (μ : zM) => (oI (pfold (fr1 N S) i none), nI i, μ)) (fun _ μ1 => CS N s w μ1 μ1 S ∧ FrD o 3 μ μ1) (nL N) (fun r => r.1 = oI (rgN N S) ∧ CS N s w r.2.2 r.2.2 S ∧ FrD o 3 μ r.2.2) (by
    intro i μ1 hi q1
    have lo := lt i (by omega)
    have es : pfold (fr1 N S) (i + 1) none = fr1 N S i (pfold (fr1 N S) i none) := rfl
    rw [es]
    generalize pfold (fr1 N S) i none = z at *
    show ∃ y, f6_firstOnRing_L1 o s (oI z) (nI i) μ1 = some (.inl (oI (fr1 N S i z), nI (i + 1), y)) ∧ _
    have x1 := nw.bo_8 (show 2 * i < 2 * nL N by omega)
    have x2 := nw.bo_8 (show 2 * i + 1 < 2 * nL N by omega)
    unfold f6_firstOnRing_L1
    rw [q1.1.c_wir, obs, q1.1.w_l, clt_nI (by omega) (by omega), decide_eq_true hi, if_pos rfl, C_opn q1.1 hi, obs]
    cases ho2 : opn S i with
    | false =>
      rw [if_neg (by decide), obs, nI_1, fr1_no (by unfold qul; rw [ho2]; rfl)]
      exact ⟨μ1, rfl, q1⟩
    | true =>
      rw [if_pos rfl]
      obtain ⟨μ2, e2, q2⟩ := C_lab (v := nI i) q1.1 ho
      have l8 := lab_8 (S := S) (v := nI i) nw (nL N) (Nat.le_refl _)
      have f2 : FrD o 3 μ μ2 := q1.2.tr q2.1.2
      rw [e2, obs, C_join _ q2.1.1 q2 l8 hi, obs]
      have hq : qul N S i = decide (lab N S (nI i) (bo N (2 * i)) = lab N S (nI i) (bo N (2 * i + 1))) := by unfold qul; rw [ho2, Bool.true_and]
      cases hj : decide (lab N S (nI i) (bo N (2 * i)) = lab N S (nI i) (bo N (2 * i + 1))) with
      | false =>
        rw [hj] at hq
        rw [if_neg (by decide), obs, nI_1, fr1_no hq]
        exact ⟨μ2, rfl, q2.1.1, f2⟩
      | true =>
        rw [hj] at hq
        rw [if_pos rfl, q2.1.1.c_wir, obs, mulQ2, q2.1.1.w_bo (by omega), obs, obs, nI_1, q2.1.1.w_bo (by omega), obs, obs, iMin_nI (by omega) (by omega), nI_1]
        cases z with
        | none =>
          rw [show ceq (oI none) (-1) = true from rfl, if_pos rfl, obs, obs, fr1_n hq]
          exact ⟨μ2, rfl, q2.1.1, f2⟩
        | some y =>
          have y8 := lo y rfl
          rw [show oI (some y) = nI y from rfl, oI_none (by omega), if_neg (by decide), iMin_nI (by omega) (by omega), obs, obs, fr1_s hq]
          exact ⟨μ2, rfl, q2.1.1, f2⟩) (by
    intro μ1 q1
    refine ⟨(oI (rgN N S), nI (nL N), μ1), ?_, rfl, q1⟩
    show f6_firstOnRing_L1 o s _ (nI (nL N)) μ1 = _
    unfold f6_firstOnRing_L1
    rw [q1.1.c_wir, obs, q1.1.w_l, clt_nI (by omega) (by omega), decide_eq_false (by omega), if_neg (by decide)]; rfl) (nL N) 0 1000000 μ (by omega) (by omega) (by omega) ⟨h, FrD.rf⟩
  obtain ⟨r1, r2, r3⟩ := r
  obtain ⟨h2, h3⟩ := h1
  refine ⟨r3, ?_, h3⟩
  unfold f6_firstOnRing
  rw [show ((-1 : Int32), (0 : Int32), μ) = (oI (pfold (fr1 N S) 0 none), nI 0, μ) from rfl, e, ozb3, show r1 = oI (rgN N S) from h2]
theorem R_ring (q : MS N m B ν ν S) : ∃ ν', f12_ringBridge m ν = some (oI (rgN N S), ν') ∧ MS N m B ν' ν' S ∧ FrD (m + 29) 1 ν ν' := by
  have nw := q.nw
  have l14 := nw.l14; have b8 := nw.b8
  have L2 : ∀ b ν1, b < nB N → (MS N m B ν1 ν1 S ∧ FrD (m + 29) 1 ν ν1) → (∃ a, zloop (fun s => f12_ringBridge_L2 m (nI b) s.1 s.2) 1000000 (nI 0, ν1) = some (.inl a) ∧ (a.1 = nI b ∧ (MS N m B a.2 a.2 S ∧ FrD (m + 29) 1 ν a.2) ∧ ∃ l, l < nL N ∧ qul N S l = true ∧ (bo N (2 * l) = b ∨ bo N (2 * l + 1) = b))) ∨ ∃ r, zloop (fun s => f12_ringBridge_L2 m (nI b) s.1 s.2) 1000000 (nI 0, ν1) = some (.inr r) ∧ ((MS N m B r.2 r.2 S ∧ FrD (m + 29) 1 ν r.2) ∧ ∀ l, l < nL N → qul N S l = true → ¬ (bo N (2 * l) = b ∨ bo N (2 * l + 1) = b)) := fun b ν1 hb q1 =>
    lpX (body := fun s => f12_ringBridge_L2 m (nI b) s.1 s.2) (fun i (ν : zM) => (nI i, ν)) (fun i ν1 => (MS N m B ν1 ν1 S ∧ FrD (m + 29) 1 ν ν1) ∧ ∀ l, l < i → qul N S l = true → ¬ (bo N (2 * l) = b ∨ bo N (2 * l + 1) = b)) (nL N) (fun a => a.1 = nI b ∧ (MS N m B a.2 a.2 S ∧ FrD (m + 29) 1 ν a.2) ∧ ∃ l, l < nL N ∧ qul N S l = true ∧ (bo N (2 * l) = b ∨ bo N (2 * l + 1) = b)) (fun r => (MS N m B r.2 r.2 S ∧ FrD (m + 29) 1 ν r.2) ∧ ∀ l, l < nL N → qul N S l = true → ¬ (bo N (2 * l) = b ∨ bo N (2 * l + 1) = b)) (by
      intro i ν1 hi ⟨q1, hm⟩
      have x1 := nw.bo_b (show 2 * i < 2 * nL N by omega)
      have x2 := nw.bo_b (show 2 * i + 1 < 2 * nL N by omega)
      have hc : ((((some (opn S i)).bind fun t22 => some (!t22)).bind fun b18 => if b18 = true then (some true) else (((rA ν1 (m + 4) 56 (4 * nI i)).bind fun t21 => some (!(ceq t21 (nI b)))).bind fun b19 => if b19 = true then ((rA ν1 (m + 4) 56 ((4 * nI i) + 2)).bind fun t20 => some (!(ceq t20 (nI b)))) else (some false))) : Option Bool) = some (!(opn S i && (decide (bo N (2 * i) = b) || decide (bo N (2 * i + 1) = b)))) := by
        rw [obs, obs, q1.1.ends0 hi, obs, obs, q1.1.ends2 hi, obs, ceq_nI (by omega) (by omega), ceq_nI (by omega) (by omega)]
        cases opn S i <;> cases decide (bo N (2 * i) = b) <;> cases decide (bo N (2 * i + 1) = b) <;> rfl
      have keep : (qul N S i = true → ¬ (bo N (2 * i) = b ∨ bo N (2 * i + 1) = b)) → ∀ l, l < i + 1 → qul N S l = true → ¬ (bo N (2 * l) = b ∨ bo N (2 * l + 1) = b) := fun hh l hl => by
        by_cases c : l = i
        · rw [c]; exact hh
        · exact hm l (by omega)
      show (∃ y, f12_ringBridge_L2 m (nI b) (nI i) ν1 = some (.inl (nI (i + 1), y)) ∧ _) ∨ ∃ a, f12_ringBridge_L2 m (nI b) (nI i) ν1 = some (.inr (.inl a)) ∧ _
      unfold f12_ringBridge_L2
      rw [q1.1.g_l, clt_nI (by omega) (by omega), decide_eq_true hi, if_pos rfl, R_opn q1.1 hi, hc, obs]
      cases c : (opn S i && (decide (bo N (2 * i) = b) || decide (bo N (2 * i + 1) = b))) with
      | false =>
        rw [if_pos (show (!false) = true from rfl), obs, nI_1]
        refine Or.inl ⟨ν1, rfl, q1, keep (fun h1 h2 => ?_)⟩
        have ho2 : opn S i = true := by unfold qul at h1; exact (Bool.and_eq_true_iff.mp h1).1
        rw [ho2, Bool.true_and, Bool.or_eq_false_iff, decide_eq_false_iff_not, decide_eq_false_iff_not] at c
        rcases h2 with h2 | h2
        · exact c.1 h2
        · exact c.2 h2
      | true =>
        rw [if_neg (show ¬ (!true) = true by decide)]
        rw [Bool.and_eq_true, Bool.or_eq_true, decide_eq_true_iff, decide_eq_true_iff] at c
        obtain ⟨ν2, e2, q2⟩ := R_parts (v := nI i) q1.1
        have l8 := lab_8 (S := S) (v := nI i) nw (nL N) (Nat.le_refl _)
        have f2 : FrD (m + 29) 1 ν ν2 := q1.2.tr q2.1.2
        have y1 : lab N S (nI i) (bo N (2 * i)) < 8 := l8 _ (by omega)
        have y2 : lab N S (nI i) (bo N (2 * i + 1)) < 8 := l8 _ (by omega)
        rw [e2, ozb2, q2.1.1.ends0 hi, obs, rA_nI (by omega) (by omega), obs, q2.1.1.ends2 hi, obs, rA_nI (by omega) (by omega), obs, q2.2 _ (by omega), q2.2 _ (by omega), ceq_nI (by omega) (by omega)]
        have hq : qul N S i = decide (lab N S (nI i) (bo N (2 * i)) = lab N S (nI i) (bo N (2 * i + 1))) := by unfold qul; rw [c.1, Bool.true_and]
        cases hj : decide (lab N S (nI i) (bo N (2 * i)) = lab N S (nI i) (bo N (2 * i + 1))) with
        | true =>
          rw [hj] at hq
          rw [if_pos rfl]
          exact Or.inr ⟨_, rfl, rfl, ⟨q2.1.1, f2⟩, i, hi, hq, c.2⟩
        | false =>
          rw [hj] at hq
          rw [if_neg (by decide), obs, nI_1]
          exact Or.inl ⟨ν2, rfl, ⟨q2.1.1, f2⟩, keep (fun h1 => by rw [hq] at h1; cases h1)⟩) (by
      intro ν1 ⟨q1, hm⟩
      refine ⟨(nI (nL N), ν1), ?_, q1, hm⟩
      show f12_ringBridge_L2 m (nI b) (nI (nL N)) ν1 = _
      unfold f12_ringBridge_L2
      rw [q1.1.g_l, clt_nI (by omega) (by omega), decide_eq_false (by omega), if_neg (by decide)]) (nL N) 0 1000000 ν1 (by omega) (by omega) (by omega) ⟨q1, fun l hl => absurd hl (by omega)⟩
  have h1 := lpX (body := fun s => f12_ringBridge_L1 m s.1 s.2) (fun i (ν : zM) => (nI i, ν)) (fun i ν1 => (MS N m B ν1 ν1 S ∧ FrD (m + 29) 1 ν ν1) ∧ ∀ b, b < i → ∀ l, l < nL N → qul N S l = true → ¬ (bo N (2 * l) = b ∨ bo N (2 * l + 1) = b)) (nB N) (fun a => a.1 = oI (rgN N S) ∧ MS N m B a.2 a.2 S ∧ FrD (m + 29) 1 ν a.2) (fun r => rgN N S = none ∧ MS N m B r.2 r.2 S ∧ FrD (m + 29) 1 ν r.2) (by
    intro i ν1 hi ⟨q1, hm⟩
    have start : f12_ringBridge_L1 m (nI i) ν1 = ((zloop (fun s => f12_ringBridge_L2 m (nI i) s.1 s.2) 1000000 (nI 0, ν1)).bind fun r9 => Sum.elim (fun v => some (.inr (.inl v))) (zq2 fun v_l_7 μ8 => (some (nI i + 1)).bind fun v_b_23 => some (.inl (v_b_23, μ8))) r9) := by
      unfold f12_ringBridge_L1
      rw [q1.1.g_b, clt_nI (by omega) (by omega), decide_eq_true hi, if_pos rfl]; rfl
    rcases L2 i ν1 hi q1 with ⟨a, e2, a1, a2, l, b1, b2, b3⟩ | ⟨r, e2, r1, r2⟩
    · rw [e2] at start
      refine Or.inr ⟨a, start, ?_, a2⟩
      have : rgN N S = some i := rg_u (rg_fold (N := N) (S := S) (nL N)) (show isRg N S (nL N) (some i) from ⟨⟨l, b1, b2, b3⟩, fun l' h1 h2 => by
        refine ⟨?_, ?_⟩
        · by_cases c : bo N (2 * l') < i
          · exact absurd (Or.inl rfl) (hm _ c l' h1 h2)
          · omega
        · by_cases c : bo N (2 * l' + 1) < i
          · exact absurd (Or.inr rfl) (hm _ c l' h1 h2)
          · omega⟩)
      rw [this, a1]; rfl
    · rw [e2] at start
      refine Or.inl ⟨r.2, ?_, r1, fun b hb => ?_⟩
      · refine start.trans ?_
        show (some (nI i + 1)).bind (fun v_b_23 => some (Sum.inl (v_b_23, r.2))) = _
        rw [obs, nI_1]
      · by_cases c : b = i
        · rw [c]; exact r2
        · exact hm b (by omega)) (by
    intro ν1 ⟨q1, hm⟩
    refine ⟨(nI (nB N), ν1), ?_, ?_, q1⟩
    · show f12_ringBridge_L1 m (nI (nB N)) ν1 = _
      unfold f12_ringBridge_L1
      rw [q1.1.g_b, clt_nI (by omega) (by omega), decide_eq_false (by omega), if_neg (by decide)]
    · refine rg_u (rg_fold (N := N) (S := S) (nL N)) (show isRg N S (nL N) none from fun l hl => ?_)
      cases h : qul N S l with
      | false => rfl
      | true => exact absurd (Or.inl rfl) (hm _ (nw.bo_b (show 2 * l < 2 * nL N by omega)) l hl h)) (nB N) 0 1000000 ν (by omega) (by omega) (by omega) ⟨⟨q, FrD.rf⟩, fun b hb => absurd hb (by omega)⟩
  unfold f12_ringBridge
  rcases h1 with ⟨a, e2, a1, a2⟩ | ⟨r, e2, r1, r2⟩
  · refine ⟨a.2, ?_, a2⟩
    rw [show ((0 : Int32), ν) = (nI 0, ν) from rfl, e2]
    show some a = _
    rw [← a1]
  · refine ⟨r.2, ?_, r2⟩
    rw [show ((0 : Int32), ν) = (nI 0, ν) from rfl, e2, r1]; rfl
end zE5
