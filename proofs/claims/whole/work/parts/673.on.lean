/-! WHAT AN IMAGE SAYS, written; a net begins so, in the reference -/
def ri1 (g : Nat → Nat) (b : Nat) (S : zS) : zS := zu (zu (zu S 20 b (nI (g (3 * b)))) 21 b (nI (g (3 * b + 1)))) 22 b (nI (g (3 * b + 2)))
def imS (N : zN) (g : Nat → Nat) (S : zS) : zS := pfold (fun h S => zu S 41 h (nI (g (3 * nB N + nL N + h)))) (nH N) (pfold (fun l S => zu S 40 l (nI (g (3 * nB N + l)))) (nL N) (pfold (ri1 g) (nB N) S))
/-- an image that can be -/
def OKI (N : zN) (g : Nat → Nat) : Prop := (∀ b, b < nB N → g (3 * b) ≤ 1 ∧ g (3 * b + 1) ≤ 15 ∧ g (3 * b + 2) ≤ 1) ∧ (∀ l, l < nL N → g (3 * nB N + l) ≤ 1) ∧ ∀ h, h < nH N → g (3 * nB N + nL N + h) < nB N
def rbv (N : zN) (l : Nat) (S : zS) : zS := if upl N S l = true then rb4 N l S else S
section zM3
variable {N : zN} {x m w s B st top n k i f c p j b l t e P h : Nat} {μ0 μ μ' μ1 ν0 ν ν' ν1 M : zM} {S S' S1 X Z : zS} {v : Int32} {U : Nat → Bool} {g : Nat → Nat}
theorem ri1_f : ∀ n, pfold (ri1 g) n S f i = if f = 20 ∧ i < n then nI (g (3 * i)) else if f = 21 ∧ i < n then nI (g (3 * i + 1)) else if f = 22 ∧ i < n then nI (g (3 * i + 2)) else S f i
  | 0 => by rw [if_neg (by omega), if_neg (by omega), if_neg (by omega)]; rfl
  | n + 1 => by
    show ri1 g n (pfold (ri1 g) n S) f i = _
    have ih := ri1_f n
    unfold ri1 zu at *
    rw [ih]
    rcases Nat.lt_trichotomy i n with c | c | c
    · simp only [show ¬ i = n by omega, show i < n from c, show i < n + 1 by omega, and_true, and_false, ↓reduceIte]
    · subst c
      simp only [and_true, Nat.lt_irrefl, and_false, ↓reduceIte, Nat.lt_succ_self]
      by_cases c0 : f = 20
      · subst c0; rfl
      · by_cases c1 : f = 21
        · subst c1; rfl
        · by_cases c2 : f = 22
          · subst c2; rfl
          · rw [if_neg c2, if_neg c1, if_neg c0, if_neg c0, if_neg c1, if_neg c2]
    · simp only [show ¬ i = n by omega, show ¬ i < n by omega, show ¬ i < n + 1 by omega, and_false, ↓reduceIte]
theorem imS_f : imS N g S f i = if f = 41 ∧ i < nH N then nI (g (3 * nB N + nL N + i)) else if f = 40 ∧ i < nL N then nI (g (3 * nB N + i)) else if f = 20 ∧ i < nB N then nI (g (3 * i)) else if f = 21 ∧ i < nB N then nI (g (3 * i + 1)) else if f = 22 ∧ i < nB N then nI (g (3 * i + 2)) else S f i := by
  unfold imS
  rw [pf_zu (g := 41) (fun h => nI (g (3 * nB N + nL N + h))), pf_zu (g := 40) (fun l => nI (g (3 * nB N + l))), ri1_f]
theorem imS_o (h : f ≠ 41 ∧ f ≠ 40 ∧ f ≠ 20 ∧ f ≠ 21 ∧ f ≠ 22) : imS N g S f i = S f i := by
  rw [imS_f, if_neg (by omega), if_neg (by omega), if_neg (by omega), if_neg (by omega), if_neg (by omega)]
theorem im20 (hi : i < nB N) : imS N g S 20 i = nI (g (3 * i)) := by rw [imS_f, if_neg (by omega), if_neg (by omega), if_pos ⟨rfl, hi⟩]
theorem im21 (hi : i < nB N) : imS N g S 21 i = nI (g (3 * i + 1)) := by rw [imS_f, if_neg (by omega), if_neg (by omega), if_neg (by omega), if_pos ⟨rfl, hi⟩]
theorem im22 (hi : i < nB N) : imS N g S 22 i = nI (g (3 * i + 2)) := by rw [imS_f, if_neg (by omega), if_neg (by omega), if_neg (by omega), if_neg (by omega), if_pos ⟨rfl, hi⟩]
theorem im40 (hi : i < nL N) : imS N g S 40 i = nI (g (3 * nB N + i)) := by rw [imS_f, if_neg (by omega), if_pos ⟨rfl, hi⟩]
theorem im41 (hi : i < nH N) : imS N g S 41 i = nI (g (3 * nB N + nL N + i)) := by rw [imS_f, if_pos ⟨rfl, hi⟩]
theorem im_up (nw : NW N) (he : e < 2 * nL N) : up N (imS N g S) e = up N (imS N g X) e := by
  have x1 := nw.bo_b he
  have x2 := nw.bo_b (fe_lt he)
  unfold up
  rw [im40 (by omega), im20 x1, im20 x2, im40 (by omega), im20 x1, im20 x2]
theorem z01 {a : Nat} (h : a ≤ 1) : nI a = 0 ∨ nI a = 1 := by
  rcases (show a = 0 ∨ a = 1 by omega) with x | x <;> rw [x]
  · exact Or.inl rfl
  · exact Or.inr rfl
theorem R_o1 (q : MS N m 0 ν0 ν Z) (ok : OKI N g) (hg : ∀ j, j < 1600 → gA ν0 (m + 21) j = nI (g j)) : ∃ ν', zloop (fun s => f12_on_L1 m s.1 s.2) 1000000 (0, ν) = some (nI (nB N), ν') ∧ MS N m 0 ν0 ν' (pfold (ri1 g) (nB N) Z) := by
  have nw := q.nw
  have b8 := nw.b8
  exact lp (Q := MS N m 0 ν0) (body := fun s => f12_on_L1 m s.1 s.2) nI (ri1 g) (nB N) (S := Z) (μ := ν) (x0 := 0) (by
    intro i ν1 hi q1
    generalize pfold (ri1 g) i Z = S1 at *
    show ∃ ν', f12_on_L1 m (nI i) ν1 = some (.inl (nI (i + 1), ν')) ∧ MS N m 0 ν0 ν' (ri1 g i S1)
    obtain ⟨o1, o2, o3⟩ := ok.1 i hi
    have q2 := q1.w_b hi (k := 0) (by omega) (Or.inl (by omega)) (v := nI (g (3 * i))) (fun _ => z01 o1)
    have q3 := q2.w_b hi (k := 1) (by omega) (Or.inl (by omega)) (v := nI (g (3 * i + 1))) (fun x => by omega)
    have q4 := q3.w_b hi (k := 2) (by omega) (Or.inl (by omega)) (v := nI (g (3 * i + 2))) (fun _ => z01 o3)
    have tp : ∀ {ν' S'}, MS N m 0 ν0 ν' S' → ∀ j, j < 1600 → rA ν' (m + 21) 1600 (nI j) = some (nI (g j)) := fun q j hj => by rw [rA_nI hj (by omega), q.ar _ (by omega) (by omega) (by omega), hg j hj]
    have z3 : (3 : Int32) * nI i = nI (3 * i) := by rw [show (3 : Int32) = nI 3 from rfl, pk_mul]
    unfold f12_on_L1
    rw [q1.g_b, clt_nI (by omega) (by omega), decide_eq_true hi, if_pos rfl, show f12_bridgeAt (nI i) 0 ν1 = some (nI (4 + 12 * i + 0)) from bAt i 0, obs, z3, tp q1 _ (by omega), obs, q1.puts (by omega), obs, show ∀ ν, f12_bridgeAt (nI i) 1 ν = some (nI (4 + 12 * i + 1)) from fun ν => bAt i 1, obs, show nI (3 * i) + 1 = nI (3 * i + 1) from nI_add _ 1, tp q2 _ (by omega), obs, q2.puts (by omega), obs, show ∀ ν, f12_bridgeAt (nI i) 2 ν = some (nI (4 + 12 * i + 2)) from fun ν => bAt i 2, obs, show nI (3 * i) + 2 = nI (3 * i + 2) from nI_add _ 2, tp q3 _ (by omega), obs, q3.puts (by omega), obs, obs, nI_1]
    exact ⟨_, rfl, q4⟩) (by
    intro ν1 q1
    show f12_on_L1 m (nI (nB N)) ν1 = _
    unfold f12_on_L1
    rw [q1.g_b, clt_nI (by omega) (by omega), decide_eq_false (by omega), if_neg (by decide)]) (by omega) q
theorem R_o2 (q : MS N m 0 ν0 ν Z) (ok : OKI N g) (hg : ∀ j, j < 1600 → gA ν0 (m + 21) j = nI (g j)) : ∃ ν', zloop (fun s => f12_on_L2 m s.1 s.2) 1000000 (0, ν) = some (nI (nL N), ν') ∧ MS N m 0 ν0 ν' (pfold (fun l S => zu S 40 l (nI (g (3 * nB N + l)))) (nL N) Z) := by
  have nw := q.nw
  have b8 := nw.b8
  have l14 := nw.l14
  have z3 : (3 : Int32) * nI (nB N) = nI (3 * nB N) := by rw [show (3 : Int32) = nI 3 from rfl, pk_mul]
  exact lp (Q := MS N m 0 ν0) (body := fun s => f12_on_L2 m s.1 s.2) nI (fun l S => zu S 40 l (nI (g (3 * nB N + l)))) (nL N) (S := Z) (μ := ν) (x0 := 0) (by
    intro i ν1 hi q1
    generalize pfold (fun l S => zu S 40 l (nI (g (3 * nB N + l)))) i Z = S1 at *
    show ∃ ν', f12_on_L2 m (nI i) ν1 = some (.inl (nI (i + 1), ν')) ∧ MS N m 0 ν0 ν' (zu S1 40 i (nI (g (3 * nB N + i))))
    unfold f12_on_L2
    rw [q1.g_l, q1.g_b, clt_nI (by omega) (by omega), decide_eq_true hi, if_pos rfl, z3, nI_add, rA_nI (by omega) (by omega), q1.ar _ (by omega) (by omega) (by omega), hg _ (by omega), obs, addQ964, q1.puts (by omega), obs, obs, nI_1]
    exact ⟨_, rfl, q1.w_l hi (z01 (ok.2.1 i hi))⟩) (by
    intro ν1 q1
    show f12_on_L2 m (nI (nL N)) ν1 = _
    unfold f12_on_L2
    rw [q1.g_l, clt_nI (by omega) (by omega), decide_eq_false (by omega), if_neg (by decide)]) (by omega) q
theorem R_o3 (q : MS N m 0 ν0 ν Z) (ok : OKI N g) (hg : ∀ j, j < 1600 → gA ν0 (m + 21) j = nI (g j)) : ∃ ν', zloop (fun s => f12_on_L3 m s.1 s.2) 1000000 (0, ν) = some (nI (nH N), ν') ∧ MS N m 0 ν0 ν' (pfold (fun h S => zu S 41 h (nI (g (3 * nB N + nL N + h)))) (nH N) Z) := by
  have nw := q.nw
  have b8 := nw.b8
  have l14 := nw.l14
  have h8 := nw.h8
  have z3 : (3 : Int32) * nI (nB N) = nI (3 * nB N) := by rw [show (3 : Int32) = nI 3 from rfl, pk_mul]
  exact lp (Q := MS N m 0 ν0) (body := fun s => f12_on_L3 m s.1 s.2) nI (fun h S => zu S 41 h (nI (g (3 * nB N + nL N + h)))) (nH N) (S := Z) (μ := ν) (x0 := 0) (by
    intro i ν1 hi q1
    generalize pfold (fun h S => zu S 41 h (nI (g (3 * nB N + nL N + h)))) i Z = S1 at *
    show ∃ ν', f12_on_L3 m (nI i) ν1 = some (.inl (nI (i + 1), ν')) ∧ MS N m 0 ν0 ν' (zu S1 41 i (nI (g (3 * nB N + nL N + i))))
    unfold f12_on_L3
    rw [q1.g_h, q1.g_l, q1.g_b, clt_nI (by omega) (by omega), decide_eq_true hi, if_pos rfl, z3, nI_add, nI_add, rA_nI (by omega) (by omega), q1.ar _ (by omega) (by omega) (by omega), hg _ (by omega), obs, addQ978, q1.puts (by omega), obs, obs, nI_1]
    exact ⟨_, rfl, q1.w_h hi ⟨_, ok.2.2 i hi, rfl⟩⟩) (by
    intro ν1 q1
    show f12_on_L3 m (nI (nH N)) ν1 = _
    unfold f12_on_L3
    rw [q1.g_h, clt_nI (by omega) (by omega), decide_eq_false (by omega), if_neg (by decide)]) (by omega) q
theorem rbv_f (nw : NW N) (hU : ∀ e, e < 2 * nL N → up N S e = U e) : ∀ n, n ≤ nL N → ∀ f i, pfold (rbv N) n S f i = if i / 2 < n ∧ U i = true ∧ (f ≤ 10 ∨ f = 15 ∨ f = 16 ∨ f = 49) then (if f = 5 then nI (tE N i) else 0) else S f i
  | 0, _, f, i => (if_neg (by omega)).symm
  | n + 1, hn, f, i => by
    show rbv N n (pfold (rbv N) n S) f i = _
    have o : ∀ f i, 10 < f ∧ f ≠ 15 ∧ f ≠ 16 ∧ f ≠ 49 → pfold (rbv N) n S f i = S f i := fun f i hf => by rw [rbv_f nw hU n (by omega) f i, if_neg (by omega)]
    have u0 : upl N (pfold (rbv N) n S) n = U (2 * n) := by
      rw [← hU _ (by omega)]
      unfold upl up fe
      rw [o _ _ (by omega), o _ _ (by omega), o _ _ (by omega), show 2 * n / 2 = n by omega]
      rw [if_pos (by omega)]
    have u1 : U (2 * n + 1) = U (2 * n) := by
      rw [← hU _ (by omega), ← hU _ (by omega)]
      unfold up fe
      rw [show (2 * n + 1) / 2 = n by omega, show 2 * n / 2 = n by omega, if_neg (by omega), if_pos (by omega), show 2 * n + 1 - 1 = 2 * n by omega, Bool.and_assoc, Bool.and_comm (ceq (S 20 (bo N (2 * n + 1))) 1), ← Bool.and_assoc]
    have ih := rbv_f nw hU n (by omega) f i
    generalize pfold (rbv N) n S = Y at ih u0 ⊢
    unfold rbv
    rw [u0]
    by_cases cu : U (2 * n) = true
    · rw [if_pos cu]
      unfold rb4
      rw [clr_f, clr_f, ih]
      by_cases ck : f ≤ 10 ∨ f = 15 ∨ f = 16 ∨ f = 49
      · by_cases c1 : i = 2 * n + 1
        · rw [if_pos (show i = 2 * n + 1 ∧ (f ≤ 10 ∨ f = 15 ∨ f = 16 ∨ f = 49) from ⟨c1, ck⟩), if_pos (show i / 2 < n + 1 ∧ U i = true ∧ (f ≤ 10 ∨ f = 15 ∨ f = 16 ∨ f = 49) from ⟨by omega, by rw [c1, u1]; exact cu, ck⟩), c1]
        · rw [if_neg (fun x => c1 x.1)]
          by_cases c2 : i = 2 * n
          · rw [if_pos (show i = 2 * n ∧ (f ≤ 10 ∨ f = 15 ∨ f = 16 ∨ f = 49) from ⟨c2, ck⟩), if_pos (show i / 2 < n + 1 ∧ U i = true ∧ (f ≤ 10 ∨ f = 15 ∨ f = 16 ∨ f = 49) from ⟨by omega, by rw [c2]; exact cu, ck⟩), c2]
          · rw [if_neg (fun x => c2 x.1)]
            by_cases c3 : i / 2 < n ∧ U i = true
            · rw [if_pos (show i / 2 < n ∧ U i = true ∧ (f ≤ 10 ∨ f = 15 ∨ f = 16 ∨ f = 49) from ⟨c3.1, c3.2, ck⟩), if_pos (show i / 2 < n + 1 ∧ U i = true ∧ (f ≤ 10 ∨ f = 15 ∨ f = 16 ∨ f = 49) from ⟨by omega, c3.2, ck⟩)]
            · rw [if_neg (fun x => c3 ⟨x.1, x.2.1⟩), if_neg (fun x => c3 ⟨by have := x.1; omega, x.2.1⟩)]
      · rw [if_neg (fun x => ck x.2), if_neg (fun x => ck x.2), if_neg (fun x => ck x.2.2), if_neg (fun x => ck x.2.2)]
    · rw [if_neg cu, ih]
      by_cases c3 : i / 2 < n
      · by_cases c4 : U i = true ∧ (f ≤ 10 ∨ f = 15 ∨ f = 16 ∨ f = 49)
        · rw [if_pos (show i / 2 < n ∧ U i = true ∧ (f ≤ 10 ∨ f = 15 ∨ f = 16 ∨ f = 49) from ⟨c3, c4⟩), if_pos (show i / 2 < n + 1 ∧ U i = true ∧ (f ≤ 10 ∨ f = 15 ∨ f = 16 ∨ f = 49) from ⟨by omega, c4⟩)]
        · rw [if_neg (fun x => c4 x.2), if_neg (fun x => c4 x.2)]
      · rw [if_neg (fun x => c3 x.1), if_neg]
        rintro ⟨x1, x2, _⟩
        rcases (show i = 2 * n ∨ i = 2 * n + 1 by omega) with y | y
        · rw [y] at x2; exact cu x2
        · rw [y, u1] at x2; exact cu x2
theorem R_o4 (q : MS N m 0 ν0 ν Z) : ∃ ν', zloop (fun s => f12_allBegin_L1 m s.1 s.2) 1000000 (0, ν) = some (nI (nL N), ν') ∧ MS N m 0 ν0 ν' (pfold (rbv N) (nL N) Z) := by
  have nw := q.nw
  have l14 := nw.l14
  exact lp (Q := MS N m 0 ν0) (body := fun s => f12_allBegin_L1 m s.1 s.2) nI (rbv N) (nL N) (S := Z) (μ := ν) (x0 := 0) (by
    intro i ν1 hi q1
    generalize pfold (rbv N) i Z = S1 at *
    show ∃ ν', f12_allBegin_L1 m (nI i) ν1 = some (.inl (nI (i + 1), ν')) ∧ MS N m 0 ν0 ν' (rbv N i S1)
    unfold f12_allBegin_L1 rbv
    rw [q1.g_l, clt_nI (by omega) (by omega), decide_eq_true hi, if_pos rfl, q1.upl_ hi, obs]
    cases u : upl N S1 i with
    | true =>
      obtain ⟨ν2, e2, q2⟩ := R_come q1 (show 2 * i < 2 * nL N by omega)
      obtain ⟨ν3, e3, q3⟩ := R_come q2 (show 2 * i + 1 < 2 * nL N by omega)
      rw [if_pos rfl, if_pos rfl, q1.poe0 hi, obs, e2, obs, q2.poe1 hi, obs, e3, obs, obs, nI_1]
      exact ⟨ν3, rfl, q3⟩
    | false =>
      rw [if_neg (by decide), if_neg (by decide), obs, nI_1]
      exact ⟨ν1, rfl, q1⟩) (by
    intro ν1 q1
    show f12_allBegin_L1 m (nI (nL N)) ν1 = _
    unfold f12_allBegin_L1
    rw [q1.g_l, clt_nI (by omega) (by omega), decide_eq_false (by omega), if_neg (by decide)]) (by omega) q
end zM3
