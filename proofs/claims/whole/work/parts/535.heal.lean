/-! IN HOW MANY STEPS ALL IS HEALED; how many steps have a ring -/
section zH5
variable {N : zN} {x w m B st n k i f : Nat} {μ0 μ μ' ν0 ν : zM} {S : zS}
theorem C_hll (nw : NW N) (hI : INV N st S) (h0 : S 44 0 = nI st) (hs : st + 1000 < 2 ^ 30) (hw : w = x + 23 ∨ w = x + 36) (q : CS N (x + 312) w μ μ S) : (∃ a, zloop (fun s => f11_countHealing_L1 x s.1 s.2) 1000000 (0, μ) = some (.inl a) ∧ ∃ n, a.1 = nI n ∧ Fst (fun n => Hld N (stp N st n S)) 320 n ∧ CS N (x + 312) w a.2 a.2 (stp N st n S) ∧ FrA x μ a.2) ∨ ∃ r, zloop (fun s => f11_countHealing_L1 x s.1 s.2) 1000000 (0, μ) = some (.inr r) ∧ (∀ n, n ≤ 320 → ¬ Hld N (stp N st n S)) ∧ CS N (x + 312) w r.2 r.2 (stp N st 321 S) ∧ FrA x μ r.2 := by
  have out : Out (x + 11) 3 (x + 312) w := ⟨by omega, by omega⟩
  have key := lpX (body := fun s => f11_countHealing_L1 x s.1 s.2) (fun i (μ : zM) => (nI i, μ)) (fun i μ1 => (∀ n, n < i → ¬ Hld N (stp N st n S)) ∧ CS N (x + 312) w μ1 μ1 (stp N st i S) ∧ FrA x μ μ1) 321 (fun a => ∃ n, a.1 = nI n ∧ Fst (fun n => Hld N (stp N st n S)) 320 n ∧ CS N (x + 312) w a.2 a.2 (stp N st n S) ∧ FrA x μ a.2) (fun r => (∀ n, n ≤ 320 → ¬ Hld N (stp N st n S)) ∧ CS N (x + 312) w r.2 r.2 (stp N st 321 S) ∧ FrA x μ r.2) (by
    intro i μ1 hi ⟨hn, hc, hf⟩
    obtain ⟨r, μ2, e1, h1, hc2, hf2⟩ := C_hld hc out
    have f2 := hf.tr (FrA.fd hf2 (by omega) (by omega))
    have c4 : clt 320 (nI i) = false := by rw [show (320 : Int32) = nI 320 from rfl, clt_nI (by omega) (by omega)]; exact decide_eq_false (by omega)
    have start : f11_countHealing_L1 x (nI i) μ1 = if r = true then some (.inr (.inl (nI i, μ2))) else ((f8_step (x + 312) μ2).bind fun μ9 => some (.inl (nI (i + 1), μ9))) := by
      unfold f11_countHealing_L1
      rw [c4, if_neg (by decide), e1, ozb2, nI_1]
      simp only [obs]
    cases r with
    | true =>
      rw [if_pos rfl] at start
      exact Or.inr ⟨_, start, i, rfl, ⟨by omega, h1.mp rfl, hn⟩, hc2, f2⟩
    | false =>
      rw [if_neg (by decide)] at start
      obtain ⟨μ3, e3, h3⟩ := C_step hc2 (stp_0 h0 i) (by omega)
      rw [e3, obs] at start
      refine Or.inl ⟨μ3, start, fun n hn2 => ?_, h3.self, f2.tr (FrA.fc h3.c_fr)⟩
      by_cases c : n = i
      · rw [c]; exact fun hM => absurd (h1.mpr hM) (by decide)
      · exact hn n (by omega)) (by
    intro μ1 ⟨hn, hc, hf⟩
    refine ⟨(nI 321, μ1), ?_, fun n h => hn n (by omega), hc, hf⟩
    show f11_countHealing_L1 x (nI 321) μ1 = _
    have c4 : clt 320 (nI 321) = true := by decide
    unfold f11_countHealing_L1
    rw [c4, if_pos rfl]) 321 0 1000000 μ (by omega) (by omega) (by omega) ⟨fun n h => absurd h (by omega), q, FrA.rf⟩
  exact key
theorem R_hll (q : MS N m 2874 ν ν S) (hI : INV N st S) (h0 : S 44 0 = nI st) (hs : st + 1000 < 2 ^ 30) : (∃ a, zloop (fun s => f12_healsIn_L1 m s.1 s.2) 1000000 (0, ν) = some (.inl a) ∧ ∃ n, a.1 = nI n ∧ Fst (fun n => Hld N (stp N st n S)) 320 n ∧ FrT m ν a.2) ∨ ∃ r, zloop (fun s => f12_healsIn_L1 m s.1 s.2) 1000000 (0, ν) = some (.inr r) ∧ (∀ n, n ≤ 320 → ¬ Hld N (stp N st n S)) ∧ FrT m ν r.2 := by
  have nw := q.nw
  have key := lpX (body := fun s => f12_healsIn_L1 m s.1 s.2) (fun i (ν : zM) => (nI i, ν)) (fun i ν1 => (∀ n, n < i → ¬ Hld N (stp N st n S)) ∧ MS N m 2874 ν1 ν1 (stp N st i S) ∧ FrT m ν ν1) 321 (fun a => ∃ n, a.1 = nI n ∧ Fst (fun n => Hld N (stp N st n S)) 320 n ∧ FrT m ν a.2) (fun r => (∀ n, n ≤ 320 → ¬ Hld N (stp N st n S)) ∧ FrT m ν r.2) (by
    intro i ν1 hi ⟨hn, hc, hf⟩
    have ii := stp_i nw hI i
    obtain ⟨r, ν2, e1, h1, hc2, hf2⟩ := R_hld hc
    have f2 := hf.tr (FrT.fd hf2 (by omega) (by omega))
    have c4 : clt 320 (nI i) = false := by rw [show (320 : Int32) = nI 320 from rfl, clt_nI (by omega) (by omega)]; exact decide_eq_false (by omega)
    have start : f12_healsIn_L1 m (nI i) ν1 = if r = true then some (.inr (.inl (nI i, ν2))) else ((f12_steps m ν2).bind fun μ9 => some (.inl (nI (i + 1), μ9))) := by
      unfold f12_healsIn_L1
      rw [c4, if_neg (by decide), e1, ozb2, nI_1]
      simp only [obs]
    cases r with
    | true =>
      rw [if_pos rfl] at start
      exact Or.inr ⟨_, start, i, rfl, ⟨by omega, h1.mp rfl, hn⟩, f2⟩
    | false =>
      rw [if_neg (by decide)] at start
      obtain ⟨ν3, e3, q3⟩ := R_steps hc2 (stp_0 h0 i) (by omega) ii.1 ii.2.1
      rw [e3, obs] at start
      refine Or.inl ⟨ν3, start, fun n hn2 => ?_, q3.self, f2.tr (FrT.fm q3.2.2.2)⟩
      by_cases c : n = i
      · rw [c]; exact fun hM => absurd (h1.mpr hM) (by decide)
      · exact hn n (by omega)) (by
    intro ν1 ⟨hn, hc, hf⟩
    refine ⟨(nI 321, ν1), ?_, fun n h => hn n (by omega), hf⟩
    show f12_healsIn_L1 m (nI 321) ν1 = _
    have c4 : clt 320 (nI 321) = true := by decide
    unfold f12_healsIn_L1
    rw [c4, if_pos rfl]) 321 0 1000000 ν (by omega) (by omega) (by omega) ⟨fun n h => absurd h (by omega), q, FrT.rf⟩
  exact key
/-- steps that have a ring -/
def rgc (N : zN) (st : Nat) (S : zS) (k : Nat) : Bool := decide (0 < morN N (stp N st (k + 1) S) (-1))
theorem mor_le : ∀ n, (pfold (mor N S (-1)) n (0, fun b => b)).1 ≤ n
  | 0 => Nat.le_refl _
  | n + 1 => by
    have ih := mor_le n
    show (mor N S (-1) n (pfold (mor N S (-1)) n (0, fun b => b))).1 ≤ n + 1
    generalize pfold (mor N S (-1)) n (0, fun b => b) = X at *
    unfold mor
    show (if _ then X.1 else if _ then X.1 + 1 else X.1) ≤ n + 1
    split
    · exact Nat.le_succ_of_le ih
    · split
      · exact Nat.succ_le_succ ih
      · exact Nat.le_succ_of_le ih
theorem C_rgs (h0 : S 44 0 = nI st) (hs : st + 1000 < 2 ^ 30) (hw : w = x + 23 ∨ w = x + 36) (hn : n ≤ 200) (q : CS N (x + 312) w μ μ S) : ∃ μ', zloop (fun s => f11_rings_L1 x (nI n) s.1 s.2.1 s.2.2) 1000000 (0, 0, μ) = some (nI (cnt (rgc N st S) n), nI n, μ') ∧ CS N (x + 312) w μ' μ' (stp N st n S) ∧ FrA x μ μ' := by
  have out : Out (x + 11) 3 (x + 312) w := ⟨by omega, by omega⟩
  have l14 := q.nw.l14
  obtain ⟨r, e, h1⟩ := zloop_up (body := fun s => f11_rings_L1 x (nI n) s.1 s.2.1 s.2.2) (fun i (μ : zM) => (nI (cnt (rgc N st S) i), nI i, μ)) (fun i μ1 => CS N (x + 312) w μ1 μ1 (stp N st i S) ∧ FrA x μ μ1) n (fun r => ∃ μ', r = (nI (cnt (rgc N st S) n), nI n, μ') ∧ CS N (x + 312) w μ' μ' (stp N st n S) ∧ FrA x μ μ') (by
    intro i μ1 hi ⟨hc, hf⟩
    obtain ⟨μ2, e2, h2⟩ := C_step hc (stp_0 h0 i) (by omega)
    have h2 : CS N (x + 312) w μ1 μ2 (stp N st (i + 1) S) := h2
    obtain ⟨μ3, e3, h3, f3⟩ := C_spare h2.self out
    have ml := mor_le (N := N) (S := stp N st (i + 1) S) (nL N)
    have ml : morN N (stp N st (i + 1) S) (-1) ≤ nL N := ml
    have ec : clt 0 (nI (morN N (stp N st (i + 1) S) (-1))) = rgc N st S i := by rw [show (0 : Int32) = nI 0 from rfl, clt_nI (by omega) (by omega)]; rfl
    refine ⟨μ3, ?_, h3, (hf.tr (FrA.fc h2.c_fr)).tr (FrA.fd f3 (by omega) (by omega))⟩
    show f11_rings_L1 x (nI n) (nI (cnt (rgc N st S) i)) (nI i) μ1 = _
    unfold f11_rings_L1
    rw [clt_nI (by omega) (by omega), decide_eq_true hi, if_pos rfl, e2, obs, e3, ozb2, ec, cnt_s]
    cases rgc N st S i with
    | true => rw [if_pos rfl, if_pos rfl, ozb2, obs, obs, nI_1, nI_1]
    | false => rw [if_neg (by decide), if_neg (by decide), ozb2, obs, obs, nI_1, show ∀ a, nI a + 0 = nI (a + 0) from fun a => nI_add a 0]; rfl) (by
    intro μ1 ⟨hc, hf⟩
    refine ⟨_, ?_, μ1, rfl, hc, hf⟩
    show f11_rings_L1 x (nI n) _ (nI n) μ1 = _
    unfold f11_rings_L1
    rw [clt_nI (by omega) (by omega), decide_eq_false (by omega), if_neg (by decide)]) n 0 1000000 μ (by omega) (by omega) (by omega) ⟨q, FrA.rf⟩
  obtain ⟨μ', rfl, h2, h3⟩ := h1
  exact ⟨μ', e, h2, h3⟩
theorem R_rgs (q : MS N m 2874 ν ν S) (hI : INV N st S) (h0 : S 44 0 = nI st) (hs : st + 1000 < 2 ^ 30) (hn : n ≤ 200) : ∃ ν', zloop (fun s => f12_rings_L1 m (nI n) s.1 s.2.1 s.2.2) 1000000 (0, 0, ν) = some (nI (cnt (rgc N st S) n), nI n, ν') ∧ FrT m ν ν' := by
  have nw := q.nw
  have l14 := nw.l14
  obtain ⟨r, e, h1⟩ := zloop_up (body := fun s => f12_rings_L1 m (nI n) s.1 s.2.1 s.2.2) (fun i (ν : zM) => (nI (cnt (rgc N st S) i), nI i, ν)) (fun i ν1 => MS N m 2874 ν1 ν1 (stp N st i S) ∧ FrT m ν ν1) n (fun r => ∃ ν', r = (nI (cnt (rgc N st S) n), nI n, ν') ∧ FrT m ν ν') (by
    intro i ν1 hi ⟨hc, hf⟩
    have ii := stp_i nw hI i
    obtain ⟨ν2, e2, q2⟩ := R_steps hc (stp_0 h0 i) (by omega) ii.1 ii.2.1
    have q2 : MS N m 2874 ν1 ν2 (stp N st (i + 1) S) := q2
    obtain ⟨ν3, e3, q3⟩ := R_parts (v := -1) q2.self
    have ml := mor_le (N := N) (S := stp N st (i + 1) S) (nL N)
    have ml : morN N (stp N st (i + 1) S) (-1) ≤ nL N := ml
    have ec : clt 0 (nI (morN N (stp N st (i + 1) S) (-1))) = rgc N st S i := by rw [show (0 : Int32) = nI 0 from rfl, clt_nI (by omega) (by omega)]; rfl
    refine ⟨ν3, ?_, q3.1.1, (hf.tr (FrT.fm q2.2.2.2)).tr (FrT.fd q3.1.2 (by omega) (by omega))⟩
    show f12_rings_L1 m (nI n) (nI (cnt (rgc N st S) i)) (nI i) ν1 = _
    unfold f12_rings_L1
    rw [clt_nI (by omega) (by omega), decide_eq_true hi, if_pos rfl, e2, obs, e3, ozb2, ec, cnt_s]
    cases rgc N st S i with
    | true => rw [if_pos rfl, if_pos rfl, ozb2, obs, obs, nI_1, nI_1]
    | false => rw [if_neg (by decide), if_neg (by decide), ozb2, obs, obs, nI_1, show ∀ a, nI a + 0 = nI (a + 0) from fun a => nI_add a 0]; rfl) (by
    intro ν1 ⟨hc, hf⟩
    refine ⟨_, ?_, ν1, rfl, hf⟩
    show f12_rings_L1 m (nI n) _ (nI n) ν1 = _
    unfold f12_rings_L1
    rw [clt_nI (by omega) (by omega), decide_eq_false (by omega), if_neg (by decide)]) n 0 1000000 ν (by omega) (by omega) (by omega) ⟨q, FrT.rf⟩
  obtain ⟨ν', rfl, h2⟩ := h1
  exact ⟨ν', e, h2⟩
end zH5
