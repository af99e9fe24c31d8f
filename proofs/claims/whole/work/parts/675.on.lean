/-! AN IMAGE READ: both -/
def lim (N : zN) (k : Nat) : Nat := if k < 3 * nB N ∧ k % 3 = 1 then 16 else if k < 3 * nB N + nL N then 2 else nB N
section zM5
variable {N : zN} {x m w s B st top n k i f c p j b l t e P h : Nat} {μ0 μ μ' μ1 ν0 ν ν' ν1 M : zM} {S S' S1 X Z : zS} {v : Int32} {U : Nat → Bool} {g : Nat → Nat}
theorem lim_ok (nw : NW N) (h : ∀ k, k < 3 * nB N + nL N + nH N → g k < lim N k) : OKI N g := by
  refine ⟨fun b hb => ⟨?_, ?_, ?_⟩, fun l hl => ?_, fun a ha => ?_⟩
  · have := h (3 * b) (by omega)
    unfold lim at this
    rw [if_neg (by omega), if_pos (by omega)] at this
    omega
  · have := h (3 * b + 1) (by omega)
    unfold lim at this
    rw [if_pos (by omega)] at this
    omega
  · have := h (3 * b + 2) (by omega)
    unfold lim at this
    rw [if_neg (by omega), if_pos (by omega)] at this
    omega
  · have := h (3 * nB N + l) (by omega)
    unfold lim at this
    rw [if_neg (by omega), if_pos (by omega)] at this
    omega
  · have := h (3 * nB N + nL N + a) (by omega)
    unfold lim at this
    rw [if_neg (by omega), if_neg (by omega)] at this
    exact this
theorem isI1 (h : JJ N S st w x m top μ ν) (hg : ∀ j, j < 1600 → gA ν (m + 21) j = nI (g j)) (g256 : ∀ j, j < 1600 → g j < 256) (hk : k < 3 * nB N + nL N + nH N) : f11_isImage_L1 x μ (nI (3 * nB N + nL N)) (nI (3 * nB N + nL N + nH N)) (nI k) = (if g k < lim N k then some (.inl (nI (k + 1))) else some (.inr (.inl false))) ∧ f12_isImage_L2 m ν (nI (3 * nB N + nL N + nH N)) true (nI k) = some (.inl (decide (g k < lim N k), nI (k + 1))) := by
  have nw := h.1.nw
  have b8 := nw.b8; have l14 := nw.l14; have h8 := nw.h8
  have gk := g256 k (by omega)
  have tk : gA μ (x + 1) k = nI (g k) := (h.2.2.1.1.2 k (by omega)).1.trans (hg k (by omega))
  have wb : gF μ 1015 w = nI (nB N) := h.1.cs.w_b
  have gb : gF ν 1201 m = nI (nB N) := h.1.m0.2.2.2.1.1
  have gl : gF ν 1202 m = nI (nL N) := h.1.m0.2.2.2.1.2.1
  have z3 : (3 : Int32) * nI (nB N) = nI (3 * nB N) := by rw [show (3 : Int32) = nI 3 from rfl, pk_mul]
  have r3 : iRem (nI k) 3 = some (nI (k % 3)) := iRem_nI (d := 3) (by omega) (by omega) (by omega)
  have c1 : ceq (nI (k % 3)) 1 = decide (k % 3 = 1) := ceq_nI (b := 1) (by omega) (by omega)
  unfold f11_isImage_L1 f12_isImage_L2
  have k1 : clt (nI k) (nI (3 * nB N + nL N + nH N)) = true := by rw [clt_nI (by omega) (by omega), decide_eq_true hk]
  have k2 : clt (nI k) (nI (3 * nB N)) = decide (k < 3 * nB N) := clt_nI (by omega) (by omega)
  have k3 : clt (nI k) (nI (3 * nB N + nL N)) = decide (k < 3 * nB N + nL N) := clt_nI (by omega) (by omega)
  rw [h.1.wr, rA_nI (by omega) (by omega), rA_nI (by omega) (by omega), tk, hg k (by omega), r3]
  simp only [obs, wb, gb, gl, z3, nI_add, c1, nI_1, k1, k2, k3, Bool.and_self, ↓reduceIte]
  have fin : ∀ (L : Nat), L < 2 ^ 31 → (if clt (nI (g k)) (nI L) = true then (some (.inl (nI (k + 1))) : Option (Int32 ⊕ (Bool ⊕ Int32))) else some (.inr (.inl false))) = (if g k < L then some (.inl (nI (k + 1))) else some (.inr (.inl false))) := fun L hL => by
    rw [clt_nI (by omega) hL]
    by_cases c : g k < L
    · rw [decide_eq_true c, if_pos rfl, if_pos c]
    · rw [decide_eq_false c, if_neg (by decide), if_neg c]
  have fi2 : ∀ (L : Nat), L < 2 ^ 31 → (!clt (nI L) (nI (g k))) = decide (g k < L + 1) := fun L hL => by
    rw [clt_nI hL (by omega)]
    by_cases c : g k < L + 1
    · rw [decide_eq_true c, decide_eq_false (show ¬ L < g k by omega)]; rfl
    · rw [decide_eq_false c, decide_eq_true (show L < g k by omega)]; rfl
  by_cases a1 : k < 3 * nB N
  · rw [decide_eq_true a1, decide_eq_true (show k < 3 * nB N + nL N by omega)]
    by_cases a2 : k % 3 = 1
    · have hl : lim N k = 16 := by unfold lim; rw [if_pos ⟨a1, a2⟩]
      rw [decide_eq_true a2, hl]
      simp only [↓reduceIte, obs]
      exact ⟨fin 16 (by omega), by rw [show (15 : Int32) = nI 15 from rfl, fi2 15 (by omega)]⟩
    · have hl : lim N k = 2 := by unfold lim; rw [if_neg (fun z => a2 z.2), if_pos (by omega)]
      rw [decide_eq_false a2, hl]
      simp only [↓reduceIte, obs, Bool.false_eq_true]
      exact ⟨fin 2 (by omega), by rw [show (1 : Int32) = nI 1 from rfl, fi2 1 (by omega)]⟩
  · rw [decide_eq_false a1]
    by_cases a2 : k < 3 * nB N + nL N
    · have hl : lim N k = 2 := by unfold lim; rw [if_neg (fun z => a1 z.1), if_pos a2]
      rw [decide_eq_true a2, hl]
      simp only [↓reduceIte, obs, Bool.false_eq_true]
      exact ⟨fin 2 (by omega), by rw [show (1 : Int32) = nI 1 from rfl, fi2 1 (by omega)]⟩
    · have hl : lim N k = nB N := by unfold lim; rw [if_neg (fun z => a1 z.1), if_neg a2]
      have b1 : 0 < nB N := by have := nw.hm (show 0 < nH N by omega); omega
      have zz : nI (nB N) - 1 = nI (nB N - 1) := by
        obtain ⟨d, hd⟩ : ∃ d, nB N = d + 1 := ⟨nB N - 1, by omega⟩
        rw [hd, ← nI_1, Int32.add_sub_cancel]
        rfl
      rw [decide_eq_false a2, hl, zz]
      simp only [↓reduceIte, obs, Bool.false_eq_true]
      refine ⟨fin (nB N) (by omega), ?_⟩
      rw [fi2 _ (by omega), show nB N - 1 + 1 = nB N by omega]
theorem isIL (h : JJ N S st w x m top μ ν) (hg : ∀ j, j < 1600 → gA ν (m + 21) j = nI (g j)) (g256 : ∀ j, j < 1600 → g j < 256) : ∀ (d i F : Nat), 3 * nB N + nL N + nH N - i = d → i ≤ 3 * nB N + nL N + nH N → d + 1 < F → (zloop (fun s => f11_isImage_L1 x μ (nI (3 * nB N + nL N)) (nI (3 * nB N + nL N + nH N)) s) F (nI i) = some (.inl false) ∧ ∃ k', zloop (fun s => f12_isImage_L2 m ν (nI (3 * nB N + nL N + nH N)) s.1 s.2) F (true, nI i) = some (false, k')) ∨ ((∃ k', zloop (fun s => f11_isImage_L1 x μ (nI (3 * nB N + nL N)) (nI (3 * nB N + nL N + nH N)) s) F (nI i) = some (.inr k')) ∧ (∃ k', zloop (fun s => f12_isImage_L2 m ν (nI (3 * nB N + nL N + nH N)) s.1 s.2) F (true, nI i) = some (true, k')) ∧ ∀ k, i ≤ k → k < 3 * nB N + nL N + nH N → g k < lim N k) := by
  have nw := h.1.nw
  have b8 := nw.b8; have l14 := nw.l14; have h8 := nw.h8
  intro d
  induction d with
  | zero =>
    intro i F h1 h2 h3
    have : i = 3 * nB N + nL N + nH N := by omega
    subst this
    refine Or.inr ⟨⟨nI (3 * nB N + nL N + nH N), zloop_out (by omega) ?_⟩, ⟨nI (3 * nB N + nL N + nH N), zloop_out (by omega) ?_⟩, fun k h1 h2 => absurd h1 (by omega)⟩
    · unfold f11_isImage_L1
      rw [clt_nI (by omega) (by omega), decide_eq_false (by omega), if_neg (by decide)]
    · show f12_isImage_L2 m ν (nI (3 * nB N + nL N + nH N)) true (nI (3 * nB N + nL N + nH N)) = _
      unfold f12_isImage_L2
      rw [clt_nI (by omega) (by omega), decide_eq_false (by omega), if_neg (by decide)]
  | succ d ih =>
    intro i F h1 h2 h3
    cases F with
    | zero => omega
    | succ F =>
      obtain ⟨e1, e2⟩ := isI1 (k := i) h hg g256 (by omega)
      by_cases o : g i < lim N i
      · rw [if_pos o] at e1
        rw [decide_eq_true o] at e2
        rcases ih (i + 1) F (by omega) (by omega) (by omega) with ⟨f1, k', f2⟩ | ⟨⟨k1, f1⟩, ⟨k2, f2⟩, f3⟩
        · exact Or.inl ⟨zl_in2 e1 f1, k', zl_in2 (body := fun s => f12_isImage_L2 m ν (nI (3 * nB N + nL N + nH N)) s.1 s.2) e2 f2⟩
        · refine Or.inr ⟨⟨k1, zl_in2 e1 f1⟩, ⟨k2, zl_in2 (body := fun s => f12_isImage_L2 m ν (nI (3 * nB N + nL N + nH N)) s.1 s.2) e2 f2⟩, fun k k1 k2 => ?_⟩
          by_cases z : k = i
          · subst z; exact o
          · exact f3 k (by omega) k2
      · rw [if_neg o] at e1
        rw [decide_eq_false o] at e2
        refine Or.inl ⟨zloop_out (by omega) e1, nI (i + 1), zl_in2 (body := fun s => f12_isImage_L2 m ν (nI (3 * nB N + nL N + nH N)) s.1 s.2) e2 (zloop_out (by omega) ?_)⟩
        show f12_isImage_L2 m ν (nI (3 * nB N + nL N + nH N)) false (nI (i + 1)) = _
        unfold f12_isImage_L2
        rw [Bool.false_and, if_neg (by decide)]
theorem isI (h : JJ N S st w x m top μ ν) (ht : gB ν 1246 m = true) (hn : n ≤ 1600) (hg : ∀ j, j < 1600 → gA ν (m + 21) j = nI (g j)) (g256 : ∀ j, j < 1600 → g j < 256) : (f11_isImage x (nI n) μ = some false ∧ f12_isImage m (nI n) ν = some false) ∨ (f11_isImage x (nI n) μ = some true ∧ f12_isImage m (nI n) ν = some true ∧ OKI N g) := by
  have nw := h.1.nw
  have b8 := nw.b8; have l14 := nw.l14; have h8 := nw.h8
  have wb : gF μ 1015 w = nI (nB N) := h.1.cs.w_b
  have wl : gF μ 1016 w = nI (nL N) := h.1.cs.w_l
  have wh : gF μ 1017 w = nI (nH N) := h.1.cs.w_h
  have gb : gF ν 1201 m = nI (nB N) := h.1.m0.2.2.2.1.1
  have gl : gF ν 1202 m = nI (nL N) := h.1.m0.2.2.2.1.2.1
  have gh : gF ν 1203 m = nI (nH N) := h.1.m0.2.2.2.1.2.2.1
  have z3 : (3 : Int32) * nI (nB N) = nI (3 * nB N) := by rw [show (3 : Int32) = nI 3 from rfl, pk_mul]
  unfold f11_isImage f12_isImage
  rw [h.1.wr, gb, gl, gh, ht]
  simp only [obs, wb, wl, wh, z3, nI_add, nI_1]
  rw [ceq_nI (by omega) (by omega)]
  by_cases cn : n = 3 * nB N + nL N + nH N + 1
  · rw [decide_eq_true cn]
    simp only [↓reduceIte, Bool.not_true, Bool.or_self, Bool.false_eq_true, obs]
    have tk : gA μ (x + 1) (3 * nB N + nL N + nH N) = gA ν (m + 21) (3 * nB N + nL N + nH N) := (h.2.2.1.1.2 _ (by omega)).1
    obtain ⟨r, r1, r2⟩ := chk2 (μ := μ) (ν := ν) (n := 3 * nB N + nL N + nH N) (by omega) (bn := 1600) (a := x + 1) (d := m + 21) (dn := 1600) (fun j hj => (h.2.2.1.1.2 j (by omega)).1) (by omega) (by omega) (by omega) (by omega) (g := fun s => f12_isImage_L1 m ν (nI (3 * nB N + nL N + nH N)) s.1 s.2) (by
      intro c k hk
      show f12_isImage_L1 m ν _ c (nI k) = _
      unfold f12_isImage_L1
      rw [clt_nI (by omega) (by omega), decide_eq_true hk, if_pos rfl, nI_1]
      rfl) (by
      intro c
      show f12_isImage_L1 m ν _ c (nI (3 * nB N + nL N + nH N)) = _
      unfold f12_isImage_L1
      rw [clt_nI (by omega) (by omega), decide_eq_false (by omega), if_neg (by decide)])
    rw [r1, r2, rA_nI (by omega) (by omega), rA_nI (by omega) (by omega), tk]
    simp only [obs, ozb2]
    cases ceq (gA ν (m + 21) (3 * nB N + nL N + nH N)) r with
    | false =>
      refine Or.inl ⟨rfl, ?_⟩
      rw [zloop_out (r := (false, 0)) (by omega) rfl]; rfl
    | true =>
      simp only [Bool.not_true, Bool.false_eq_true, ↓reduceIte]
      rcases isIL h hg g256 (3 * nB N + nL N + nH N) 0 1000000 (by omega) (by omega) (by omega) with ⟨f1, k', f2⟩ | ⟨⟨k1, f1⟩, ⟨k2, f2⟩, f3⟩
      · rw [show zloop (fun s => f11_isImage_L1 x μ (nI (3 * nB N + nL N)) (nI (3 * nB N + nL N + nH N)) s) 1000000 0 = _ from f1, show zloop (fun s => f12_isImage_L2 m ν (nI (3 * nB N + nL N + nH N)) s.1 s.2) 1000000 (true, 0) = _ from f2]
        exact Or.inl ⟨rfl, rfl⟩
      · rw [show zloop (fun s => f11_isImage_L1 x μ (nI (3 * nB N + nL N)) (nI (3 * nB N + nL N + nH N)) s) 1000000 0 = _ from f1, show zloop (fun s => f12_isImage_L2 m ν (nI (3 * nB N + nL N + nH N)) s.1 s.2) 1000000 (true, 0) = _ from f2]
        exact Or.inr ⟨rfl, rfl, lim_ok nw (fun k hk => f3 k (by omega) hk)⟩
  · rw [decide_eq_false cn]
    exact Or.inl ⟨rfl, rfl⟩
end zM5
