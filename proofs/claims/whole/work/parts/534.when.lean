/-! WHEN ALL RESTS, in the reference -/
/-- cells that the reference uses up when it looks ahead -/
def FrT (m : Nat) (ν ν' : zM) : Prop := (∀ k a, ¬ (k = 1244 ∧ a = m) → (a < m + 26 ∨ m + 34 < a) → gF ν' k a = gF ν k a) ∧ (∀ k a, (a < m + 26 ∨ m + 34 < a) → gB ν' k a = gB ν k a) ∧ (∀ k a, (a < m + 26 ∨ m + 34 < a) → gR ν' k a = gR ν k a) ∧ (∀ a j, ¬ (a = m + 24 ∧ 2874 ≤ j ∧ j < 5748) → (a < m + 26 ∨ (m + 30 < a ∧ a ≠ m + 33 ∧ a ≠ m + 34)) → gA ν' a j = gA ν a j) ∧ (∀ a j, (a < m + 26 ∨ m + 34 < a) → gZ ν' a j = gZ ν a j) ∧ ∀ a j, (a < m + 26 ∨ m + 34 < a) → gX ν' a j = gX ν a j
/-- the rows that the reference uses by the way, as they are now -/
def hi38 (ν : zM) (m : Nat) (S : zS) : zS := fun f i => if f = 38 then gA ν (m + 26) i else if f = 48 then gA ν (m + 27) i else S f i
section zH4
variable {N : zN} {m B st n k i f : Nat} {ν0 ν ν1 ν' : zM} {S : zS}
theorem FrT.rf : FrT m ν ν := ⟨fun _ _ _ _ => rfl, fun _ _ _ => rfl, fun _ _ _ => rfl, fun _ _ _ _ => rfl, fun _ _ _ => rfl, fun _ _ _ => rfl⟩
theorem FrT.tr (h : FrT m ν ν1) (h2 : FrT m ν1 ν') : FrT m ν ν' := ⟨fun k a x y => (h2.1 k a x y).trans (h.1 k a x y), fun k a x => (h2.2.1 k a x).trans (h.2.1 k a x), fun k a x => (h2.2.2.1 k a x).trans (h.2.2.1 k a x), fun a j x y => (h2.2.2.2.1 a j x y).trans (h.2.2.2.1 a j x y), fun k a x => (h2.2.2.2.2.1 k a x).trans (h.2.2.2.2.1 k a x), fun k a x => (h2.2.2.2.2.2 k a x).trans (h.2.2.2.2.2 k a x)⟩
theorem FrT.fm (h : FrM m 2874 ν ν1) : FrT m ν ν1 := ⟨fun k a _ _ => h.1 k a, fun k a _ => h.2.1 k a, fun k a _ => h.2.2.1 k a, fun a j x y => h.2.2.2.1 a j (by omega) (by omega) (by omega), fun a j _ => h.2.2.2.2.1 a j, fun a j _ => h.2.2.2.2.2 a j⟩
theorem FrT.fd {o n : Nat} (h : FrD o n ν ν1) (h1 : m + 28 ≤ o) (h2 : o + n ≤ m + 31) : FrT m ν ν1 := ⟨fun k a _ y => (h a (by omega)).1 k, fun k a x => (h a (by omega)).2.1 k, fun k a x => (h a (by omega)).2.2.1 k, fun a j x y => (h a (by omega)).2.2.2.1 j, fun a j x => (h a (by omega)).2.2.2.2.1 j, fun a j x => (h a (by omega)).2.2.2.2.2 j⟩
theorem hi38_f (h1 : f ≠ 38) (h2 : f ≠ 48) : hi38 ν m S f i = S f i := by unfold hi38; rw [if_neg h1, if_neg h2]
/-- what is now stands, behind a look ahead -/
theorem M0.ft (h : M0 N m 0 ν S) (f : FrT m ν ν') : M0 N m 0 ν' (hi38 ν' m S) := by
  have nw := h.2.2.1
  have A : ∀ a j, a < m + 26 → (a ≠ m + 24 ∨ j < 2874) → gA ν' a j = gA ν a j := fun a j h1 h2 => f.2.2.2.1 a j (by omega) (by omega)
  have rl : ∀ k, k < 2874 → rw_ m 0 ν' k = rw_ m 0 ν k := fun k hk => by rw [rw_lo (by omega), rw_lo (by omega), A _ _ (by omega) (by omega)]
  refine ⟨?_, ⟨fun b x hb hx => by rw [hi38_f (by omega) (by omega)]; exact h.2.1.1 b x hb hx, fun x hx => by rw [hi38_f (by omega) (by omega)]; exact h.2.1.2 x hx⟩, nw, h.2.2.2.mv (fun k h1 h2 => f.1 k m (by omega) (by omega)) (fun d j h1 h2 => A _ _ (by omega) (by omega))⟩
  have r2 : MR N (fun k => if k < 3000 then rw_ m 0 ν' k else rw_ m 0 ν k) S := h.1.ro nw (fun k hk => by
    by_cases c : k < 3000
    · rw [if_pos c]; exact rl k (by omega)
    · rw [if_neg c])
  refine r2.hi nw (fun k hk => by rw [if_pos hk]) (fun f i h1 h2 _ _ _ _ => hi38_f h2 h1) ⟨fun k hk => ?_, fun b hb => ?_⟩
  · unfold rw_
    rw [if_neg (by omega), if_pos (by omega), Nat.add_sub_cancel_left]; rfl
  · unfold rw_
    rw [if_neg (by omega), if_neg (by omega), Nat.add_sub_cancel_left]; rfl
theorem tries_ft : FrT m ν (sF (cpW ν (m + 24) (m + 24) 0 2874 2874) 1244 m 2874) := ⟨fun k a x y => by rw [gF_sF, if_neg x]; rfl, fun _ _ _ => rfl, fun _ _ _ => rfl, fun a j x y => by rw [gA_sF, gA_cpW, if_neg (by omega)], fun _ _ _ => rfl, fun _ _ _ => rfl⟩
theorem inv_32 (hI : INV N st S) : ∀ b, b < nB N → S 20 b = 1 → S 32 b = 1 := fun b hb h20 => (hI.1.2.2 b hb h20).1.1
theorem R_whl (q : MS N m 2874 ν ν S) (hI : INV N st S) (h0 : S 44 0 = nI st) (hs : st + 1000 < 2 ^ 30) : (∃ a, zloop (fun s => f12_when_L1 m s.1 s.2) 1000000 (0, ν) = some (.inl a) ∧ ∃ n, a.1 = nI n ∧ Fst (fun n => MetA N (stp N st n S)) 400 n ∧ FrT m ν a.2) ∨ ∃ r, zloop (fun s => f12_when_L1 m s.1 s.2) 1000000 (0, ν) = some (.inr r) ∧ (∀ n, n ≤ 400 → ¬ MetA N (stp N st n S)) ∧ FrT m ν r.2 := by
  have nw := q.nw
  have key := lpX (body := fun s => f12_when_L1 m s.1 s.2) (fun i (ν : zM) => (nI i, ν)) (fun i ν1 => (∀ n, n < i → ¬ MetA N (stp N st n S)) ∧ MS N m 2874 ν1 ν1 (stp N st i S) ∧ FrT m ν ν1) 401 (fun a => ∃ n, a.1 = nI n ∧ Fst (fun n => MetA N (stp N st n S)) 400 n ∧ FrT m ν a.2) (fun r => (∀ n, n ≤ 400 → ¬ MetA N (stp N st n S)) ∧ FrT m ν r.2) (by
    intro i ν1 hi ⟨hn, hc, hf⟩
    have ii := stp_i nw hI i
    obtain ⟨r, ν2, e1, h1, q2⟩ := R_rest hc (inv_32 ii)
    have f2 := hf.tr (FrT.fd q2.2.1 (by omega) (by omega))
    have c4 : clt 400 (nI i) = false := by rw [show (400 : Int32) = nI 400 from rfl, clt_nI (by omega) (by omega)]; exact decide_eq_false (by omega)
    have start : f12_when_L1 m (nI i) ν1 = if r = true then some (.inr (.inl (nI i, ν2))) else ((f12_steps m ν2).bind fun μ8 => some (.inl (nI (i + 1), μ8))) := by
      unfold f12_when_L1
      rw [c4, if_neg (by decide), e1, ozb2, nI_1]
      simp only [obs]
    cases r with
    | true =>
      rw [if_pos rfl] at start
      exact Or.inr ⟨_, start, i, rfl, ⟨by omega, h1.mp rfl, hn⟩, f2⟩
    | false =>
      rw [if_neg (by decide)] at start
      obtain ⟨ν3, e3, q3⟩ := R_steps q2.1 (stp_0 h0 i) (by omega) ii.1 ii.2.1
      rw [e3, obs] at start
      refine Or.inl ⟨ν3, start, fun n hn2 => ?_, q3.self, f2.tr (FrT.fm q3.2.2.2)⟩
      by_cases c : n = i
      · rw [c]; exact fun hM => absurd (h1.mpr hM) (by decide)
      · exact hn n (by omega)) (by
    intro ν1 ⟨hn, hc, hf⟩
    refine ⟨(nI 401, ν1), ?_, fun n h => hn n (by omega), hf⟩
    show f12_when_L1 m (nI 401) ν1 = _
    have c4 : clt 400 (nI 401) = true := by decide
    unfold f12_when_L1
    rw [c4, if_pos rfl]) 401 0 1000000 ν (by omega) (by omega) (by omega) ⟨fun n h => absurd h (by omega), q, FrT.rf⟩
  exact key
end zH4
