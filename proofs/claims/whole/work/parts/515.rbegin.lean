/-! A NET BEGINS, in the reference -/
def rb1 (N : zN) (b : Nat) (S : zS) : zS := zu (zu (zu S 20 b 1) 21 b (nI (tPr N b))) 22 b (nI (tOl N b))
def rb4 (N : zN) (l : Nat) (S : zS) : zS := sp_clr (2 * l + 1) (nI (tE N (2 * l + 1))) (sp_clr (2 * l) (nI (tE N (2 * l))) S)
/-- the row before the choices -/
def rbg (N : zN) (Z : zS) : zS := pfold (fun b S => zu S 38 b 1) (nB N) (pfold (rb4 N) (nL N) (pfold (fun h S => zu S 41 h (nI (tHm N h))) (nH N) (pfold (fun l S => zu S 40 l 1) (nL N) (pfold (rb1 N) (nB N) Z))))
section zF5
variable {N : zN} {m B : Nat} {ν0 ν ν' : zM} {S S' Z : zS} {e b l h k n f i j : Nat} {v : Int32}
theorem MS.tp (q : MS N m B ν0 ν S) (hb : b < nB N) : rA ν (m + 1) 8 (nI b) = some (nI (tPr N b)) ∧ rA ν (m + 2) 8 (nI b) = some (nI (tOl N b)) := by
  have b8 := q.nw.b8
  have r := q.2.2.1.2.1.2.2.2.2.1 b hb
  rw [rA_nI (by omega) (by omega), rA_nI (by omega) (by omega), q.ar _ (by omega) (by omega) (by omega), q.ar _ (by omega) (by omega) (by omega), r.1, r.2]
  exact ⟨rfl, rfl⟩
theorem MS.thm (q : MS N m B ν0 ν S) (hh : h < nH N) : rA ν (m + 8) 8 (nI h) = some (nI (tHm N h)) := by
  have h8 := q.nw.h8
  have r := q.2.2.1.2.1.2.2.2.2.2.1 h hh
  rw [rA_nI (by omega) (by omega), q.ar _ (by omega) (by omega) (by omega), r]
theorem R_b1 (q : MS N m 0 ν0 ν Z) : ∃ ν', zloop (fun s => f12_net_L1 m s.1 s.2) 1000000 (0, ν) = some (nI (nB N), ν') ∧ MS N m 0 ν0 ν' (pfold (rb1 N) (nB N) Z) := by
  have nw := q.nw
  have b8 := nw.b8
  exact lp (Q := MS N m 0 ν0) (body := fun s => f12_net_L1 m s.1 s.2) nI (rb1 N) (nB N) (S := Z) (μ := ν) (x0 := 0) (by
    intro i ν1 hi q1
    generalize pfold (rb1 N) i Z = S1 at *
    show ∃ ν', f12_net_L1 m (nI i) ν1 = some (.inl (nI (i + 1), ν')) ∧ MS N m 0 ν0 ν' (rb1 N i S1)
    have ol := nw.ol hi
    have q2 := q1.w_b hi (k := 0) (by omega) (Or.inl (by omega)) (v := 1) (fun _ => Or.inr rfl)
    have q3 := q2.w_b hi (k := 1) (by omega) (Or.inl (by omega)) (v := nI (tPr N i)) (fun x => by omega)
    have q4 := q3.w_b hi (k := 2) (by omega) (Or.inl (by omega)) (v := nI (tOl N i)) (fun _ => by
      rcases (show tOl N i = 0 ∨ tOl N i = 1 by omega) with x | x <;> rw [x]
      · exact Or.inl rfl
      · exact Or.inr rfl)
    unfold f12_net_L1
    rw [q1.g_b, clt_nI (by omega) (by omega), decide_eq_true hi, if_pos rfl, show f12_bridgeAt (nI i) 0 ν1 = some (nI (4 + 12 * i + 0)) from bAt i 0, obs, q1.puts (by omega), obs, show ∀ ν, f12_bridgeAt (nI i) 1 ν = some (nI (4 + 12 * i + 1)) from fun ν => bAt i 1, obs, (q2.tp hi).1, obs, q2.puts (by omega), obs, show ∀ ν, f12_bridgeAt (nI i) 2 ν = some (nI (4 + 12 * i + 2)) from fun ν => bAt i 2, obs, (q3.tp hi).2, obs, q3.puts (by omega), obs, obs, nI_1]
    exact ⟨_, rfl, q4⟩) (by
    intro ν1 q1
    show f12_net_L1 m (nI (nB N)) ν1 = _
    unfold f12_net_L1
    rw [q1.g_b, clt_nI (by omega) (by omega), decide_eq_false (by omega), if_neg (by decide)]) (by omega) q
theorem R_b2 (q : MS N m 0 ν0 ν Z) : ∃ ν', zloop (fun s => f12_net_L2 m s.1 s.2) 1000000 (0, ν) = some (nI (nL N), ν') ∧ MS N m 0 ν0 ν' (pfold (fun l S => zu S 40 l 1) (nL N) Z) := by
  have nw := q.nw
  have l14 := nw.l14
  exact lp (Q := MS N m 0 ν0) (body := fun s => f12_net_L2 m s.1 s.2) nI (fun l S => zu S 40 l 1) (nL N) (S := Z) (μ := ν) (x0 := 0) (by
    intro i ν1 hi q1
    generalize pfold (fun l S => zu S 40 l 1) i Z = S1 at *
    show ∃ ν', f12_net_L2 m (nI i) ν1 = some (.inl (nI (i + 1), ν')) ∧ MS N m 0 ν0 ν' (zu S1 40 i 1)
    unfold f12_net_L2
    rw [q1.g_l, clt_nI (by omega) (by omega), decide_eq_true hi, if_pos rfl, addQ964, q1.puts (by omega), obs, obs, nI_1]
    exact ⟨_, rfl, q1.w_l hi (Or.inr rfl)⟩) (by
    intro ν1 q1
    show f12_net_L2 m (nI (nL N)) ν1 = _
    unfold f12_net_L2
    rw [q1.g_l, clt_nI (by omega) (by omega), decide_eq_false (by omega), if_neg (by decide)]) (by omega) q
theorem R_b3 (q : MS N m 0 ν0 ν Z) : ∃ ν', zloop (fun s => f12_net_L3 m s.1 s.2) 1000000 (0, ν) = some (nI (nH N), ν') ∧ MS N m 0 ν0 ν' (pfold (fun h S => zu S 41 h (nI (tHm N h))) (nH N) Z) := by
  have nw := q.nw
  have h8 := nw.h8
  exact lp (Q := MS N m 0 ν0) (body := fun s => f12_net_L3 m s.1 s.2) nI (fun h S => zu S 41 h (nI (tHm N h))) (nH N) (S := Z) (μ := ν) (x0 := 0) (by
    intro i ν1 hi q1
    generalize pfold (fun h S => zu S 41 h (nI (tHm N h))) i Z = S1 at *
    show ∃ ν', f12_net_L3 m (nI i) ν1 = some (.inl (nI (i + 1), ν')) ∧ MS N m 0 ν0 ν' (zu S1 41 i (nI (tHm N i)))
    unfold f12_net_L3
    rw [q1.g_h, clt_nI (by omega) (by omega), decide_eq_true hi, if_pos rfl, q1.thm hi, obs, addQ978, q1.puts (by omega), obs, obs, nI_1]
    exact ⟨_, rfl, q1.w_h hi ⟨_, nw.hm hi, rfl⟩⟩) (by
    intro ν1 q1
    show f12_net_L3 m (nI (nH N)) ν1 = _
    unfold f12_net_L3
    rw [q1.g_h, clt_nI (by omega) (by omega), decide_eq_false (by omega), if_neg (by decide)]) (by omega) q
theorem rb4_o (hf : 10 < f ∧ f ≠ 15 ∧ f ≠ 16 ∧ f ≠ 49) : ∀ n, pfold (rb4 N) n S f i = S f i
  | 0 => rfl
  | n + 1 => by
    show rb4 N n (pfold (rb4 N) n S) f i = S f i
    unfold rb4
    rw [clr_f, if_neg (by omega), clr_f, if_neg (by omega)]
    exact rb4_o hf n
theorem R_b4 (q : MS N m 0 ν0 ν Z) (hu : ∀ l, l < nL N → upl N Z l = true) : ∃ ν', zloop (fun s => f12_allBegin_L1 m s.1 s.2) 1000000 (0, ν) = some (nI (nL N), ν') ∧ MS N m 0 ν0 ν' (pfold (rb4 N) (nL N) Z) := by
  have nw := q.nw
  have l14 := nw.l14
  exact lp (Q := MS N m 0 ν0) (body := fun s => f12_allBegin_L1 m s.1 s.2) nI (rb4 N) (nL N) (S := Z) (μ := ν) (x0 := 0) (by
    intro i ν1 hi q1
    have u : upl N (pfold (rb4 N) i Z) i = true := by
      unfold upl
      rw [rb4_o (by omega), rb4_o (by omega), rb4_o (by omega)]
      exact hu i hi
    generalize pfold (rb4 N) i Z = S1 at *
    show ∃ ν', f12_allBegin_L1 m (nI i) ν1 = some (.inl (nI (i + 1), ν')) ∧ MS N m 0 ν0 ν' (rb4 N i S1)
    obtain ⟨ν2, e2, q2⟩ := R_come q1 (show 2 * i < 2 * nL N by omega)
    obtain ⟨ν3, e3, q3⟩ := R_come q2 (show 2 * i + 1 < 2 * nL N by omega)
    unfold f12_allBegin_L1
    rw [q1.g_l, clt_nI (by omega) (by omega), decide_eq_true hi, if_pos rfl, q1.upl_ hi, obs, u, if_pos rfl, q1.poe0 hi, obs, e2, obs, q2.poe1 hi, obs, e3, obs, obs, nI_1]
    exact ⟨ν3, rfl, q3⟩) (by
    intro ν1 q1
    show f12_allBegin_L1 m (nI (nL N)) ν1 = _
    unfold f12_allBegin_L1
    rw [q1.g_l, clt_nI (by omega) (by omega), decide_eq_false (by omega), if_neg (by decide)]) (by omega) q
theorem R_b5 (q : MS N m 0 ν0 ν Z) : ∃ ν', zloop (fun s => f12_allBegin_L2 m s.1 s.2) 1000000 (0, ν) = some (nI (nB N), ν') ∧ MS N m 0 ν0 ν' (pfold (fun b S => zu S 38 b 1) (nB N) Z) := by
  have nw := q.nw
  have b8 := nw.b8
  exact lp (Q := MS N m 0 ν0) (body := fun s => f12_allBegin_L2 m s.1 s.2) nI (fun b S => zu S 38 b 1) (nB N) (S := Z) (μ := ν) (x0 := 0) (by
    intro i ν1 hi q1
    generalize pfold (fun b S => zu S 38 b 1) i Z = S1 at *
    show ∃ ν', f12_allBegin_L2 m (nI i) ν1 = some (.inl (nI (i + 1), ν')) ∧ MS N m 0 ν0 ν' (zu S1 38 i 1)
    obtain ⟨e2, q2⟩ := q1.w_con (v := 1) (show i < 8 by omega)
    unfold f12_allBegin_L2
    rw [q1.g_b, clt_nI (by omega) (by omega), decide_eq_true hi, if_pos rfl, e2, obs, obs, nI_1]
    exact ⟨_, rfl, q2⟩) (by
    intro ν1 q1
    show f12_allBegin_L2 m (nI (nB N)) ν1 = _
    unfold f12_allBegin_L2
    rw [q1.g_b, clt_nI (by omega) (by omega), decide_eq_false (by omega), if_neg (by decide)]) (by omega) q
/-- folds that write one place a round -/
theorem pf_zu {g : Nat} (c : Nat → Int32) : ∀ n, pfold (fun b S => zu S g b (c b)) n S f i = if f = g ∧ i < n then c i else S f i
  | 0 => (if_neg (by omega)).symm
  | n + 1 => by
    have ih := pf_zu (g := g) c n
    show zu (pfold (fun b S => zu S g b (c b)) n S) g n (c n) f i = _
    generalize pfold (fun b S => zu S g b (c b)) n S = Y at *
    unfold zu
    rw [ih]
    by_cases q : f = g ∧ i = n
    · rw [if_pos q, if_pos ⟨q.1, by omega⟩, q.2]
    · rw [if_neg q]
      by_cases q2 : f = g ∧ i < n
      · rw [if_pos q2, if_pos ⟨q2.1, by omega⟩]
      · rw [if_neg q2, if_neg (fun x => by have := x.1; have := x.2; omega)]
theorem rb1_f : ∀ n, pfold (rb1 N) n S f i = if f = 20 ∧ i < n then 1 else if f = 21 ∧ i < n then nI (tPr N i) else if f = 22 ∧ i < n then nI (tOl N i) else S f i
  | 0 => by rw [if_neg (by omega), if_neg (by omega), if_neg (by omega)]; rfl
  | n + 1 => by
    have ih := rb1_f n
    show rb1 N n (pfold (rb1 N) n S) f i = _
    generalize pfold (rb1 N) n S = Y at *
    unfold rb1 zu
    rw [ih]
    by_cases c : i = n
    · by_cases d0 : f = 22
      · rw [if_pos ⟨d0, c⟩, if_neg (by omega), if_neg (by omega), if_pos (by omega), c]
      · rw [if_neg (fun x => d0 x.1)]
        by_cases d1 : f = 21
        · rw [if_pos ⟨d1, c⟩, if_neg (by omega), if_pos (by omega), c]
        · rw [if_neg (fun x => d1 x.1)]
          by_cases d2 : f = 20
          · rw [if_pos ⟨d2, c⟩, if_pos (by omega)]
          · rw [if_neg (fun x => d2 x.1), if_neg (by omega), if_neg (by omega), if_neg (by omega), if_neg (by omega), if_neg (by omega), if_neg (by omega)]
    · rw [if_neg (fun x => c x.2), if_neg (fun x => c x.2), if_neg (fun x => c x.2)]
      have e : ∀ g, (f = g ∧ i < n + 1) = (f = g ∧ i < n) := fun g => propext ⟨fun x => ⟨x.1, by have := x.2; omega⟩, fun x => ⟨x.1, by have := x.2; omega⟩⟩
      simp only [e]
theorem rb4_f : ∀ n, pfold (rb4 N) n S f i = if i / 2 < n ∧ (f ≤ 10 ∨ f = 15 ∨ f = 16 ∨ f = 49) then (if f = 5 then nI (tE N i) else 0) else S f i
  | 0 => (if_neg (by omega)).symm
  | n + 1 => by
    have ih := rb4_f n
    show rb4 N n (pfold (rb4 N) n S) f i = _
    generalize pfold (rb4 N) n S = Y at *
    unfold rb4
    rw [clr2_f (show 2 * n + 1 = fe (2 * n) by unfold fe; rw [if_pos (by omega)]), ih, show 2 * n / 2 = n by omega]
    by_cases ck : f ≤ 10 ∨ f = 15 ∨ f = 16 ∨ f = 49
    · by_cases c2 : i / 2 = n
      · rw [if_pos (show i / 2 = n ∧ (f ≤ 10 ∨ f = 15 ∨ f = 16 ∨ f = 49) from ⟨c2, ck⟩), if_pos (show i / 2 < n + 1 ∧ (f ≤ 10 ∨ f = 15 ∨ f = 16 ∨ f = 49) from ⟨by omega, ck⟩)]
      · rw [if_neg (show ¬ (i / 2 = n ∧ (f ≤ 10 ∨ f = 15 ∨ f = 16 ∨ f = 49)) from fun x => c2 x.1)]
        by_cases c3 : i / 2 < n
        · rw [if_pos (show i / 2 < n ∧ (f ≤ 10 ∨ f = 15 ∨ f = 16 ∨ f = 49) from ⟨c3, ck⟩), if_pos (show i / 2 < n + 1 ∧ (f ≤ 10 ∨ f = 15 ∨ f = 16 ∨ f = 49) from ⟨by omega, ck⟩)]
        · rw [if_neg (show ¬ (i / 2 < n ∧ (f ≤ 10 ∨ f = 15 ∨ f = 16 ∨ f = 49)) from fun x => c3 x.1), if_neg (show ¬ (i / 2 < n + 1 ∧ (f ≤ 10 ∨ f = 15 ∨ f = 16 ∨ f = 49)) from fun x => c3 (by have := x.1; omega))]
    · rw [if_neg (fun x => ck x.2), if_neg (fun x => ck x.2), if_neg (fun x => ck x.2)]
end zF5
