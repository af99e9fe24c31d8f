/-! WAYS: the table of the least sums of costs -/
def wad (x y : Nat) : Nat := if x < 1000000 ∧ y < 1000000 then x + y else 1000000
def wst (c : Nat) (w : Nat → Nat) : Nat → Nat := fun k => min (w k) (wad (w (8 * (k / 8) + c)) (w (8 * c + k % 8)))
def w0 (N : zN) (S : zS) : Nat → Nat := fun k => if k / 8 = k % 8 ∧ k / 8 < nB N ∧ S 20 (k / 8) = 1 then 0 else 1000000
def we1 (N : zN) (S : zS) (e : Nat) (w : Nat → Nat) : Nat → Nat := fun k => if up N S e = true ∧ k = 8 * bo N e + bo N (fe e) then min (w k) (cst N (e / 2)) else w k
def wE (N : zN) (S : zS) : Nat → Nat := pfold (we1 N S) (2 * nL N) (w0 N S)
def wW (N : zN) (S : zS) : Nat → Nat := pfold wst 8 (wE N S)
/-- what a table of ways keeps: nothing beyond 'far', what is near is at most `M`, among bridges there are -/
def WT (N : zN) (M : Nat) (w : Nat → Nat) : Prop := ∀ k, w k ≤ 1000000 ∧ (w k < 1000000 → w k ≤ M ∧ k / 8 < nB N ∧ k % 8 < nB N)
def fn (w : Nat → Nat) (a b : Nat) : Prop := w (8 * a + b) < 1000000
section zD0
variable {N : zN} {S : zS} {M c k a b e n : Nat} {w : Nat → Nat}
theorem wad_le {x y : Nat} (h : x ≤ 1000000) : x ≤ wad x y := by
  unfold wad
  by_cases c : x < 1000000 ∧ y < 1000000
  · rw [if_pos c]; omega
  · rw [if_neg c]; exact h
theorem wad_le2 {x y : Nat} (h : y ≤ 1000000) : y ≤ wad x y := by
  unfold wad
  by_cases c : x < 1000000 ∧ y < 1000000
  · rw [if_pos c]; omega
  · rw [if_neg c]; exact h
theorem w0_t : WT N 200 (w0 N S) := fun k => by
  unfold w0
  by_cases c : k / 8 = k % 8 ∧ k / 8 < nB N ∧ S 20 (k / 8) = 1
  · rw [if_pos c]; exact ⟨by omega, fun _ => ⟨by omega, c.2.1, by rw [← c.1]; exact c.2.1⟩⟩
  · rw [if_neg c]; exact ⟨by omega, fun h => absurd h (by omega)⟩
theorem we1_t (nw : NW N) (he : e < 2 * nL N) (h : WT N 200 w) : WT N 200 (we1 N S e w) := fun k => by
  have b8 := nw.b8
  have x1 := nw.bo_b he
  have x2 := nw.bo_b (fe_lt he)
  have x3 := nw.c200 (l := e / 2) (by omega)
  obtain ⟨h1, h2⟩ := h k
  unfold we1
  by_cases c : up N S e = true ∧ k = 8 * bo N e + bo N (fe e)
  · rw [if_pos c]
    have c2 := c.2
    exact ⟨by omega, fun _ => ⟨by omega, by omega, by omega⟩⟩
  · rw [if_neg c]; exact ⟨h1, h2⟩
theorem wE_t (nw : NW N) : ∀ n, n ≤ 2 * nL N → WT N 200 (pfold (we1 N S) n (w0 N S))
  | 0, _ => w0_t
  | n + 1, hn => we1_t nw (by omega) (wE_t nw n (by omega))
theorem wst_t (nw : NW N) (hc : c < 8) (h : WT N M w) : WT N (2 * M) (wst c w) := fun k => by
  obtain ⟨h1, h2⟩ := h k
  obtain ⟨h3, h4⟩ := h (8 * (k / 8) + c)
  obtain ⟨h5, h6⟩ := h (8 * c + k % 8)
  unfold wst wad
  refine ⟨by omega, fun hx => ?_⟩
  by_cases c1 : w k < 1000000
  · have := h2 c1
    refine ⟨by omega, this.2⟩
  · by_cases c2 : w (8 * (k / 8) + c) < 1000000 ∧ w (8 * c + k % 8) < 1000000
    · rw [if_pos c2] at hx ⊢
      have y1 := h4 c2.1
      have y2 := h6 c2.2
      refine ⟨by omega, by omega, by omega⟩
    · rw [if_neg c2] at hx; omega
theorem wW_t (nw : NW N) : ∀ n, n ≤ 8 → WT N (200 * 2 ^ n) (pfold wst n (wE N S))
  | 0, _ => wE_t nw _ (Nat.le_refl _)
  | n + 1, hn => by
    have h := wst_t nw (c := n) (by omega) (wW_t nw n (by omega))
    rw [Nat.pow_succ, show 200 * (2 ^ n * 2) = 2 * (200 * 2 ^ n) by omega]
    exact h
theorem wW_lt (nw : NW N) (hn : n ≤ 8) : WT N 51200 (pfold wst n (wE N S)) := fun k => by
  obtain ⟨h1, h2⟩ := wW_t nw n hn k
  refine ⟨h1, fun h => ⟨?_, (h2 h).2⟩⟩
  have := (h2 h).1
  have p : 2 ^ n ≤ 2 ^ 8 := Nat.pow_le_pow_right (by omega) hn
  omega
/-! what is near -/
theorem wst_fn (hb : b < 8) (h : WT N 51200 w) : fn (wst c w) a b ↔ fn w a b ∨ (fn w a c ∧ fn w c b) := by
  have e1 : (8 * a + b) / 8 = a := by omega
  have e2 : (8 * a + b) % 8 = b := by omega
  have t1 := (h (8 * a + c)).2
  have t2 := (h (8 * c + b)).2
  unfold fn wst wad
  rw [e1, e2]
  by_cases c1 : w (8 * a + c) < 1000000 ∧ w (8 * c + b) < 1000000
  · rw [if_pos c1]
    have := t1 c1.1; have := t2 c1.2
    exact ⟨fun _ => Or.inr c1, fun _ => by omega⟩
  · rw [if_neg c1]
    exact ⟨fun x => Or.inl (by omega), fun x => by rcases x with x | x
                                                   · omega
                                                   · exact absurd x c1⟩
/-- the ways of the first `c` bridges are gone -/
def WC (c : Nat) (w : Nat → Nat) : Prop := ∀ d a b, d < c → a < 8 → b < 8 → fn w a d → fn w d b → fn w a b
theorem wst_c (hc : c < 8) (h : WT N 51200 w) (h2 : WC c w) : WC (c + 1) (wst c w) := fun d a b hd ha hb x y => by
  rw [wst_fn hb h]
  by_cases c1 : d = c
  · subst c1
    rw [wst_fn (by omega) h] at x
    rw [wst_fn hb h] at y
    have x' : fn w a d := by rcases x with x | x
                             · exact x
                             · exact x.1
    have y' : fn w d b := by rcases y with y | y
                             · exact y
                             · exact y.2
    exact Or.inr ⟨x', y'⟩
  · have hd' : d < c := by omega
    rw [wst_fn (by omega) h] at x
    rw [wst_fn hb h] at y
    rcases x with x | x
    · rcases y with y | y
      · exact Or.inl (h2 d a b hd' ha hb x y)
      · exact Or.inr ⟨h2 d a c hd' ha hc x y.1, y.2⟩
    · rcases y with y | y
      · exact Or.inr ⟨x.1, h2 d c b hd' hc hb x.2 y⟩
      · exact Or.inr ⟨x.1, y.2⟩
theorem wW_c (nw : NW N) : ∀ n, n ≤ 8 → WC n (pfold wst n (wE N S))
  | 0, _ => fun d a b hd => absurd hd (by omega)
  | n + 1, hn => wst_c (by omega) (wW_lt nw (by omega)) (wW_c nw n (by omega))
theorem wW_tr {d : Nat} (nw : NW N) (ha : a < 8) (hd : d < 8) (hb : b < 8) (x : fn (wW N S) a d) (y : fn (wW N S) d b) : fn (wW N S) a b := wW_c nw 8 (Nat.le_refl _) d a b hd ha hb x y
theorem wst_le : wst c w k ≤ w k := by unfold wst; omega
theorem wW_le : ∀ n, pfold wst n w k ≤ w k
  | 0 => Nat.le_refl _
  | n + 1 => Nat.le_trans (wst_le (c := n) (w := pfold wst n w)) (wW_le n)
theorem we1_le : we1 N S e w k ≤ w k := by
  unfold we1
  by_cases c : up N S e = true ∧ k = 8 * bo N e + bo N (fe e)
  · rw [if_pos c]; omega
  · rw [if_neg c]; exact Nat.le_refl _
theorem wE_le : ∀ n, pfold (we1 N S) n w k ≤ w k
  | 0 => Nat.le_refl _
  | n + 1 => Nat.le_trans (we1_le (e := n) (w := pfold (we1 N S) n w)) (wE_le n)
theorem wW_on (hb : b < nB N) (h8 : b < 8) (h : S 20 b = 1) : wW N S (8 * b + b) = 0 := by
  have h1 : wW N S (8 * b + b) ≤ w0 N S (8 * b + b) := Nat.le_trans (wW_le 8) (wE_le _)
  unfold w0 at h1
  rw [if_pos ⟨by omega, by omega, by rw [show (8 * b + b) / 8 = b by omega]; exact h⟩] at h1
  omega
theorem wE_up (nw : NW N) (hu : up N S e = true) : ∀ n, e < n → n ≤ 2 * nL N → pfold (we1 N S) n (w0 N S) (8 * bo N e + bo N (fe e)) ≤ 200
  | 0, h, _ => absurd h (by omega)
  | n + 1, h, hn => by
    by_cases c : e < n
    · exact Nat.le_trans (we1_le (e := n) (w := pfold (we1 N S) n (w0 N S))) (wE_up nw hu n c (by omega))
    · have en : n = e := by omega
      subst en
      show we1 N S n (pfold (we1 N S) n (w0 N S)) (8 * bo N n + bo N (fe n)) ≤ 200
      unfold we1
      rw [if_pos ⟨hu, rfl⟩]
      have := nw.c200 (l := n / 2) (by omega)
      omega
theorem wW_up (nw : NW N) (he : e < 2 * nL N) (hu : up N S e = true) : fn (wW N S) (bo N e) (bo N (fe e)) := by
  have h1 : wW N S (8 * bo N e + bo N (fe e)) ≤ wE N S (8 * bo N e + bo N (fe e)) := wW_le 8
  have h2 := wE_up nw hu (2 * nL N) he (Nat.le_refl _)
  unfold fn
  unfold wE at h1
  omega
/-- what stands at the ends of a link that is up is near to the same -/
theorem wW_same (nw : NW N) (he : e < 2 * nL N) (hu : up N S e = true) (hb : b < 8) : fn (wW N S) (bo N e) b ↔ fn (wW N S) (bo N (fe e)) b := by
  have h1 := wW_up nw he hu
  have h2 := wW_up (e := fe e) nw (fe_lt he) (by rw [up_fe]; exact hu)
  rw [fe_fe] at h2
  have x1 := nw.bo_8 he
  have x2 := nw.bo_8 (fe_lt he)
  exact ⟨fun x => wW_tr nw x2 x1 hb h2 x, fun x => wW_tr nw x1 x2 hb h1 x⟩
/-! ids and roots -/
theorem id_inj {a b : Nat} (ha : a < 8) (hb : b < 8) (h : idS S a = idS S b) : a = b := by
  unfold idS at h
  have e := congrArg (fun z : Int32 => z.toBitVec.toNat % 16) h
  simp only [Int32.toBitVec_add, Int32.toBitVec_mul, BitVec.toNat_add, BitVec.toNat_mul] at e
  have n1 : (nI a).toBitVec.toNat = a := by
    show (BitVec.ofNat 32 a).toNat = a
    rw [BitVec.toNat_ofNat]; exact Nat.mod_eq_of_lt (by omega)
  have n2 : (nI b).toBitVec.toNat = b := by
    show (BitVec.ofNat 32 b).toNat = b
    rw [BitVec.toNat_ofNat]; exact Nat.mod_eq_of_lt (by omega)
  have n3 : (16 : Int32).toBitVec.toNat = 16 := by decide
  rw [n1, n2, n3] at e
  omega
end zD0
