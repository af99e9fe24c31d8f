/-! REFERENCE: the parts that open links join; counting -/
def cnt (p : Nat → Bool) (n : Nat) : Nat := pfold (fun i c => if p i = true then c + 1 else c) n 0
section zE3
variable {N : zN} {s w o m B n A : Nat} {μ0 μ μ' ν0 ν ν' : zM} {S S' : zS} {a b c d e f i j k l r x y : Nat} {L : Nat → Nat} {v : Int32} {p p' : Nat → Bool}
theorem R_opn (q : MS N m B ν0 ν S) (hl : l < nL N) : f12_isOpenLink m (nI l) ν = some (opn S l) := q.opl_ hl
theorem mor_2 : ∀ n, (pfold (mor N S v) n (0, fun b => b)).2 = pfold (lbl N S v) n (fun b => b)
  | 0 => rfl
  | n + 1 => by
    show lbl N S v n (pfold (mor N S v) n (0, fun b => b)).2 = lbl N S v n (pfold (lbl N S v) n (fun b => b))
    rw [mor_2 n]
def morN (N : zN) (S : zS) (v : Int32) : Nat := (pfold (mor N S v) (nL N) (0, fun b => b)).1
theorem R_parts (q : MS N m B ν ν S) : ∃ ν', f12_laysOpenParts m v ν = some (nI (morN N S v), ν') ∧ LQ (fun ν' => MS N m B ν' ν' S ∧ FrD (m + 29) 1 ν ν') (m + 29) ν' (lab N S v) := by
  have nw := q.nw
  have l14 := nw.l14
  have hK : ∀ ν1 j v, (MS N m B ν1 ν1 S ∧ FrD (m + 29) 1 ν ν1) → (MS N m B (sA ν1 (m + 29) j v) (sA ν1 (m + 29) j v) S ∧ FrD (m + 29) 1 ν (sA ν1 (m + 29) j v)) := fun ν1 j v q => ⟨q.1.wD (by omega), q.2.wA (by omega) (by omega)⟩
  obtain ⟨ν1, e1, q1⟩ := LQ.l1 (A := m + 29) hK (μ := ν) ⟨q, FrD.rf⟩
  obtain ⟨r, e2, h2⟩ := zloop_up (body := fun s => f12_laysOpenParts_L2 m v s.1 s.2.1 s.2.2) (fun i (ν : zM) => (nI (pfold (mor N S v) i (0, fun b => b)).1, nI i, ν)) (fun i ν1 => LQ (fun ν' => MS N m B ν' ν' S ∧ FrD (m + 29) 1 ν ν') (m + 29) ν1 (pfold (mor N S v) i (0, fun b => b)).2) (nL N) (fun r => r.1 = nI (morN N S v) ∧ LQ (fun ν' => MS N m B ν' ν' S ∧ FrD (m + 29) 1 ν ν') (m + 29) r.2.2 (lab N S v)) (by
    intro i ν1 hi q1
    have l8 := lab_8 (S := S) (v := v) nw i (by omega)
    rw [← mor_2] at l8
    have es : pfold (mor N S v) (i + 1) (0, fun b => b) = mor N S v i (pfold (mor N S v) i (0, fun b => b)) := rfl
    rw [es]
    generalize pfold (mor N S v) i (0, fun b => b) = X at *
    have x1 := nw.bo_8 (show 2 * i < 2 * nL N by omega)
    have x2 := nw.bo_8 (show 2 * i + 1 < 2 * nL N by omega)
    have y1 := l8 _ x1
    have y2 := l8 _ x2
    have cc : ((if (ceq (nI i) v) = true then (some true) else ((some (opn S i)).bind fun t30 => some (!t30))) : Option Bool) = some (ceq (nI i) v || !(opn S i)) := by cases ceq (nI i) v <;> rfl
    show ∃ y, f12_laysOpenParts_L2 m v (nI X.1) (nI i) ν1 = some (.inl (nI (mor N S v i X).1, nI (i + 1), y)) ∧ _
    unfold f12_laysOpenParts_L2 mor lbl
    rw [q1.1.1.g_l, clt_nI (by omega) (by omega), decide_eq_true hi, if_pos rfl, R_opn q1.1.1 hi, cc, obs]
    by_cases c : (ceq (nI i) v || !(opn S i)) = true
    · rw [if_pos c, if_pos c, if_pos c, obs, nI_1]
      exact ⟨ν1, rfl, q1⟩
    · rw [if_neg c, if_neg c, if_neg c]
      obtain ⟨ν3, e3, q3⟩ := LQ.l3 (x := X.2 (bo N (2 * i))) (y := X.2 (bo N (2 * i + 1))) hK q1 l8 (l8 _ x2)
      rw [q1.1.1.ends0 hi, obs, rA_nI x1 (by omega), obs, q1.1.1.ends2 hi, obs, rA_nI x2 (by omega), obs, q1.2 _ x1, q1.2 _ x2, gl3_R, e3, ceq_nI (by omega) (by omega)]
      by_cases c2 : X.2 (bo N (2 * i)) = X.2 (bo N (2 * i + 1))
      · rw [decide_eq_true c2, if_pos rfl, if_pos c2, obs, obs, ozb2, obs, nI_1, nI_1]
        exact ⟨ν3, rfl, q3⟩
      · rw [decide_eq_false c2, if_neg (by decide), if_neg c2, obs, obs, ozb2, obs, nI_1, show nI X.1 + 0 = nI (X.1 + 0) from nI_add X.1 0]
        exact ⟨ν3, rfl, q3⟩) (by
    intro ν1 q1
    refine ⟨(nI (morN N S v), nI (nL N), ν1), ?_, rfl, ?_⟩
    · show f12_laysOpenParts_L2 m v _ (nI (nL N)) ν1 = _
      unfold f12_laysOpenParts_L2
      rw [q1.1.1.g_l, clt_nI (by omega) (by omega), decide_eq_false (by omega), if_neg (by decide)]; rfl
    · rw [mor_2] at q1; exact q1) (nL N) 0 1000000 ν1 (by omega) (by omega) (by omega) q1
  obtain ⟨r1, r2, r3⟩ := r
  obtain ⟨h3, h4⟩ := h2
  refine ⟨r3, ?_, h4⟩
  unfold f12_laysOpenParts
  rw [gl1_R, e1, ozb2, show ((0 : Int32), (0 : Int32), ν1) = (nI (pfold (mor N S v) 0 (0, fun b => b)).1, nI 0, ν1) from rfl, e2, ozb3]
  rw [show r1 = nI (morN N S v) from h3]
/-! counting -/
theorem cnt_s : cnt p (n + 1) = if p n = true then cnt p n + 1 else cnt p n := rfl
theorem cnt_le : ∀ n, cnt p n ≤ n
  | 0 => Nat.le_refl _
  | n + 1 => by
    rw [cnt_s]
    have := cnt_le n
    split <;> omega
theorem cnt_eq : ∀ n, (∀ i, i < n → p' i = p i) → cnt p' n = cnt p n
  | 0, _ => rfl
  | n + 1, h => by
    rw [cnt_s, cnt_s, h n (by omega), cnt_eq n (fun i hi => h i (by omega))]
/-- one more -/
theorem cnt_up : ∀ n, k < n → p k = false → p' k = true → (∀ i, i < n → i ≠ k → p' i = p i) → cnt p' n = cnt p n + 1
  | 0, h, _, _, _ => absurd h (by omega)
  | n + 1, h, h1, h2, h3 => by
    rw [cnt_s, cnt_s]
    by_cases c : k = n
    · subst c
      rw [h1, h2, if_pos rfl, if_neg (by decide), cnt_eq k (fun i hi => h3 i (by omega) (by omega))]
    · rw [h3 n (by omega) (by omega), cnt_up n (by omega) h1 h2 (fun i hi hk => h3 i (by omega) hk)]
      split <;> omega
/-- labels stand for themselves -/
def LI (N : zN) (L : Nat → Nat) : Prop := ∀ b, b < nB N → L b < nB N ∧ L (L b) = L b
theorem LI.mg (h : LI N L) (hx : x < nB N) (hy : y < nB N) : LI N (lbm (L x) (L y) L) := fun b hb => by
  obtain ⟨h1, h2⟩ := h b hb
  obtain ⟨h3, h4⟩ := h x hx
  unfold lbm
  by_cases c : L b = L y
  · rw [if_pos c]
    refine ⟨h3, ?_⟩
    rw [h4]; split <;> rfl
  · rw [if_neg c]
    refine ⟨h1, ?_⟩
    rw [h2, if_neg c]
def fx (L : Nat → Nat) (b : Nat) : Bool := decide (L b = b)
/-- two labels become one -/
theorem fx_m (h : LI N L) (hx : x < nB N) (hy : y < nB N) (hn : L x ≠ L y) : cnt (fx L) (nB N) = cnt (fx (lbm (L x) (L y) L)) (nB N) + 1 := by
  obtain ⟨h1, h2⟩ := h y hy
  refine cnt_up (k := L y) (nB N) h1 ?_ ?_ (fun i hi hk => ?_)
  · unfold fx lbm
    rw [h2, if_pos rfl]
    exact decide_eq_false hn
  · unfold fx
    rw [h2]; exact decide_eq_true rfl
  · unfold fx lbm
    by_cases c : L i = L y
    · rw [if_pos c]
      obtain ⟨h3, h4⟩ := h x hx
      by_cases c2 : L x = i
      · rw [decide_eq_true c2]
        rw [← c2, h4] at c
        exact absurd c hn
      · rw [decide_eq_false c2, decide_eq_false (fun h => hk (by rw [← c, h]))]
    · rw [if_neg c]
theorem lab_i (nw : NW N) : ∀ n, n ≤ nL N → LI N (pfold (mor N S v) n (0, fun b => b)).2 ∧ (v = -1 → cnt (opn S) n + cnt (fx (pfold (mor N S v) n (0, fun b => b)).2) (nB N) = (pfold (mor N S v) n (0, fun b => b)).1 + nB N)
  | 0, _ => ⟨fun b hb => ⟨hb, rfl⟩, fun _ => by
      show 0 + cnt (fx (fun b => b)) (nB N) = 0 + nB N
      have : ∀ n, cnt (fx (fun b => b)) n = n := by
        intro n
        induction n with
        | zero => rfl
        | succ n ih => rw [cnt_s, ih, show fx (fun b => b) n = true from decide_eq_true rfl, if_pos rfl]
      rw [this]⟩
  | n + 1, hn => by
    obtain ⟨i1, i2⟩ := lab_i nw n (by omega)
    have es : pfold (mor N S v) (n + 1) (0, fun b => b) = mor N S v n (pfold (mor N S v) n (0, fun b => b)) := rfl
    rw [es]
    generalize pfold (mor N S v) n (0, fun b => b) = X at *
    have x1 := nw.bo_b (show 2 * n < 2 * nL N by omega)
    have x2 := nw.bo_b (show 2 * n + 1 < 2 * nL N by omega)
    have l14 := nw.l14
    unfold mor lbl
    by_cases c : (ceq (nI n) v || !(opn S n)) = true
    · rw [if_pos c, if_pos c]
      refine ⟨i1, fun hv => ?_⟩
      rw [hv, oI_none (by omega), Bool.false_or] at c
      have co : opn S n = false := by cases h : opn S n with
        | false => rfl
        | true => rw [h] at c; exact absurd c (by decide)
      rw [cnt_s, co, if_neg (by decide)]
      exact i2 hv
    · rw [if_neg c, if_neg c]
      have co : opn S n = true := by cases h : opn S n with
        | true => rfl
        | false => rw [h, Bool.not_false, Bool.or_true] at c; exact absurd rfl c
      refine ⟨i1.mg x1 x2, fun hv => ?_⟩
      have i3 := i2 hv
      rw [cnt_s, co, if_pos rfl]
      show cnt (opn S) n + 1 + cnt (fx (lbm (X.2 (bo N (2 * n))) (X.2 (bo N (2 * n + 1))) X.2)) (nB N) = (if X.2 (bo N (2 * n)) = X.2 (bo N (2 * n + 1)) then X.1 + 1 else X.1) + nB N
      by_cases c2 : X.2 (bo N (2 * n)) = X.2 (bo N (2 * n + 1))
      · rw [if_pos c2]
        have : lbm (X.2 (bo N (2 * n))) (X.2 (bo N (2 * n + 1))) X.2 = X.2 := by
          funext b
          unfold lbm
          split
          · rename_i h; rw [h]; exact c2
          · rfl
        rw [this]; omega
      · rw [if_neg c2]
        have := fx_m i1 x1 x2 c2
        omega
end zE3
