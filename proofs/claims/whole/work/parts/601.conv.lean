/-! WORLDS: references told by places, and told one by one -/
/-- kinds of one field in both worlds -/
theorem kk_lo : ∀ ci, ci < 13 → ∀ k, k < 67 → (zK1.1 ci k = (0, 0) ∧ zK0.1 ci k = (0, 0)) ∨ (zK1.1 ci k = (1, 0) ∧ zK0.1 ci k = (1, 0)) ∨ (((zK1.1 ci k).1 = 2 ∨ (zK1.1 ci k).1 = 3) ∧ (zK0.1 ci k).1 = 4) ∨ ((zK1.1 ci k).1 = 4 ∧ zK0.1 ci k = zK1.1 ci k) := by decide +kernel
theorem kk_len : ∀ ci, ci < 13 → (zKl.getD ci []).length ≤ 67 ∧ (zKl0.getD ci []).length ≤ 67 := by decide +kernel
theorem kk_hi {ci k : Nat} (h : 13 ≤ ci ∨ 67 ≤ k) : zK1.1 ci k = (0, 0) ∧ zK0.1 ci k = (0, 0) := by
  show (zKl.getD ci []).getD k (0, 0) = (0, 0) ∧ (zKl0.getD ci []).getD k (0, 0) = (0, 0)
  by_cases c : ci < 13
  · have l := kk_len ci c
    rw [List.getD_eq_getElem?_getD (l := zKl.getD ci []), List.getD_eq_getElem?_getD (l := zKl0.getD ci []), List.getElem?_eq_none (by omega), List.getElem?_eq_none (by omega)]
    exact ⟨rfl, rfl⟩
  · have e1 : zKl.getD ci [] = [] := by rw [List.getD_eq_getElem?_getD, List.getElem?_eq_none (by show 13 ≤ ci; omega)]; rfl
    have e2 : zKl0.getD ci [] = [] := by rw [List.getD_eq_getElem?_getD, List.getElem?_eq_none (by show 13 ≤ ci; omega)]; rfl
    rw [e1, e2]
    exact ⟨rfl, rfl⟩
theorem kk (ci k : Nat) : (zK1.1 ci k = (0, 0) ∧ zK0.1 ci k = (0, 0)) ∨ (zK1.1 ci k = (1, 0) ∧ zK0.1 ci k = (1, 0)) ∨ (((zK1.1 ci k).1 = 2 ∨ (zK1.1 ci k).1 = 3) ∧ (zK0.1 ci k).1 = 4) ∨ ((zK1.1 ci k).1 = 4 ∧ zK0.1 ci k = zK1.1 ci k) := by
  by_cases c : ci < 13 ∧ k < 67
  · exact kk_lo ci c.1 k c.2
  · exact Or.inl (kk_hi (by omega))
def FL (Sh : zSh) (μ μ0 : zM) : Prop := (∀ k a, gF μ0 k a = gF μ k a) ∧ (∀ k a, gB μ0 k a = gB μ k a) ∧ (∀ a j, gA μ0 a j = gA μ a j) ∧ (∀ a j, gZ μ0 a j = gZ μ a j) ∧
  (∀ a ci k, (Sh a).1 = ci + 7 → (zK1.1 ci k).1 = 2 → gR μ0 (100 * ci + k) a = some (a + (zK1.1 ci k).2)) ∧
  (∀ a ci k, (Sh a).1 = ci + 7 → (zK1.1 ci k).1 = 3 → gR μ0 (100 * ci + k) a = some (a - (zK1.1 ci k).2)) ∧
  (∀ a ci k, (Sh a).1 = ci + 7 → (zK1.1 ci k).1 = 4 → gR μ0 (100 * ci + k) a = gR μ (100 * ci + k) a) ∧
  (∀ a t n j, Sh a = (t + 3, n) → t < 3 → j < n → gX μ0 a j = some (a + (zK1.2 t).2.1 + (zK1.2 t).2.2 * j)) ∧
  ∀ a n j, Sh a = (6, n) → gX μ0 a j = gX μ a j
section zCv
variable {Sh : zSh} {μ μ0 : zM} {D : zDt} {H : Heap}
theorem arrV_cg {c : ClassId} {n : Nat} {f g : Nat → Value} (h : ∀ j, j < n → f j = g j) : arrV c n f = arrV c n g := by
  unfold arrV
  congr 1
  congr 1
  funext j
  exact h j.val j.isLt
theorem FL.v (h : FL Sh μ μ0) {a ci k : Nat} (ha : (Sh a).1 = ci + 7) : zv zK1 μ ci a k = zv zK0 μ0 ci a k := by
  obtain ⟨f1, f2, f3, f4, f5, f6, f7, f8, f9⟩ := h
  rcases kk ci k with ⟨k1, k2⟩ | ⟨k1, k2⟩ | ⟨k1, k2⟩ | ⟨k1, k2⟩
  · unfold zv; rw [k1, k2]
    show Value.int (gF μ (100 * ci + k) a) = .int (gF μ0 (100 * ci + k) a)
    rw [f1]
  · unfold zv; rw [k1, k2]
    show Value.int (bI (gB μ (100 * ci + k) a)) = .int (bI (gB μ0 (100 * ci + k) a))
    rw [f2]
  · have e0 : zv zK0 μ0 ci a k = va_rf (gR μ0 (100 * ci + k) a) := by unfold zv; rw [k2]; rfl
    rw [e0]
    rcases k1 with k1 | k1
    · rw [f5 a ci k ha k1]
      unfold zv; rw [k1]; rfl
    · rw [f6 a ci k ha k1]
      unfold zv; rw [k1]; rfl
  · have e0 : zv zK0 μ0 ci a k = va_rf (gR μ0 (100 * ci + k) a) := by unfold zv; rw [k2, k1]; rfl
    rw [e0, f7 a ci k ha k1]
    unfold zv; rw [k1]; rfl
theorem FL.x (h : FL Sh μ μ0) {a t n j : Nat} (ht : t < 4) (ha : Sh a = (t + 3, n)) (hj : j < n) : zx zK1 μ t a j = zx zK0 μ0 t a j := by
  obtain ⟨f1, f2, f3, f4, f5, f6, f7, f8, f9⟩ := h
  have e0 : zx zK0 μ0 t a j = va_rf (gX μ0 a j) := rfl
  rw [e0]
  by_cases c : t < 3
  · rw [f8 a t n j ha c hj]
    have : t = 0 ∨ t = 1 ∨ t = 2 := by omega
    rcases this with rfl | rfl | rfl <;> rfl
  · have : t = 3 := by omega
    subst this
    rw [f9 a n j ha]
    rfl
theorem FL.cell (h : FL Sh μ μ0) (a : Nat) : zcell D zK1 μ (Sh a) a H ↔ zcell D zK0 μ0 (Sh a) a H := by
  have hx := fun t n j => h.x (a := a) (t := t) (n := n) (j := j)
  have hv := fun ci k => h.v (a := a) (ci := ci) (k := k)
  obtain ⟨f1, f2, f3, f4, f5, f6, f7, f8, f9⟩ := h
  generalize Sh a = sh at hx hv ⊢
  obtain ⟨t, n⟩ := sh
  match t, hx, hv with
  | 0, _, _ => exact Iff.rfl
  | 1, _, _ =>
    show (H[a]? = some (arrV _ n fun j => .int (gA μ a j))) ↔ (H[a]? = some (arrV _ n fun j => .int (gA μ0 a j)))
    simp only [f3]
  | 2, _, _ =>
    show (H[a]? = some (arrV _ n fun j => .int (bI (gZ μ a j)))) ↔ (H[a]? = some (arrV _ n fun j => .int (bI (gZ μ0 a j))))
    simp only [f4]
  | 3, hx, _ =>
    show (H[a]? = some (arrV _ n (zx zK1 μ 0 a))) ↔ (H[a]? = some (arrV _ n (zx zK0 μ0 0 a)))
    rw [arrV_cg (fun j hj => hx 0 n j (by omega) rfl hj)]
  | 4, hx, _ =>
    show (H[a]? = some (arrV _ n (zx zK1 μ 1 a))) ↔ (H[a]? = some (arrV _ n (zx zK0 μ0 1 a)))
    rw [arrV_cg (fun j hj => hx 1 n j (by omega) rfl hj)]
  | 5, hx, _ =>
    show (H[a]? = some (arrV _ n (zx zK1 μ 2 a))) ↔ (H[a]? = some (arrV _ n (zx zK0 μ0 2 a)))
    rw [arrV_cg (fun j hj => hx 2 n j (by omega) rfl hj)]
  | 6, hx, _ =>
    show (H[a]? = some (arrV _ n (zx zK1 μ 3 a))) ↔ (H[a]? = some (arrV _ n (zx zK0 μ0 3 a)))
    rw [arrV_cg (fun j hj => hx 3 n j (by omega) rfl hj)]
  | t + 7, _, hv =>
    constructor
    · intro ⟨r, h1, h2⟩
      exact ⟨r, h1, h2.to (fun k _ => hv t k rfl)⟩
    · intro ⟨r, h1, h2⟩
      exact ⟨r, h1, h2.to (fun k _ => (hv t k rfl).symm)⟩
/-- from references told one by one to places -/
theorem FL.down (h : FL Sh μ μ0) (q : zH D zK0 Sh μ0 H) : zH D zK1 Sh μ H := by
  refine ⟨fun a => (h.cell a).mpr (q.1 a), q.2.1, fun a ci k w h1 h2 h3 => ?_, fun a t n j w h0 h1 h2 h3 => ?_⟩
  · rcases kk ci k with ⟨k1, k2⟩ | ⟨k1, k2⟩ | ⟨k1, k2⟩ | ⟨k1, k2⟩
    · rw [k1] at h2; exact absurd h2 (by decide)
    · rw [k1] at h2; exact absurd h2 (by decide)
    · omega
    · rw [← k2]
      exact q.2.2.1 a ci k w h1 (by rw [k2]; exact h2) (by rw [h.2.2.2.2.2.2.1 a ci k h1 h2]; exact h3)
  · have : t = 3 := by
      have : t = 0 ∨ t = 1 ∨ t = 2 ∨ t = 3 := by omega
      rcases this with rfl | rfl | rfl | rfl
      · exact absurd h2 (by decide)
      · exact absurd h2 (by decide)
      · exact absurd h2 (by decide)
      · rfl
    subst this
    exact q.2.2.2 a 3 n j w h0 h1 rfl (by rw [h.2.2.2.2.2.2.2.2 a n j h1]; exact h3)
theorem okk (hO : zOK Sh) : ∀ ci k a, (Sh a).1 = ci + 7 → ((zK1.1 ci k).1 = 2 → (Sh (a + (zK1.1 ci k).2)).1 = (zK0.1 ci k).2) ∧ ((zK1.1 ci k).1 = 3 → (Sh (a - (zK1.1 ci k).2)).1 = (zK0.1 ci k).2) := by
  intro ci k a ha
  have no : ∀ {p q : Prop}, ¬ (zK1.1 ci k).1 = 2 → ¬ (zK1.1 ci k).1 = 3 → ((zK1.1 ci k).1 = 2 → p) ∧ ((zK1.1 ci k).1 = 3 → q) := fun h1 h2 => ⟨fun h => absurd h h1, fun h => absurd h h2⟩
  by_cases hc : ci < 13 ∧ k < 67
  · obtain ⟨hc, hk⟩ := hc
    have e : ci = 0 ∨ ci = 1 ∨ ci = 2 ∨ ci = 3 ∨ ci = 4 ∨ ci = 5 ∨ ci = 6 ∨ ci = 7 ∨ ci = 8 ∨ ci = 9 ∨ ci = 10 ∨ ci = 11 ∨ ci = 12 := by omega
    rcases e with rfl | rfl | rfl | rfl | rfl | rfl | rfl | rfl | rfl | rfl | rfl | rfl | rfl
    · by_cases hz : k ∈ ([1, 2] : List Nat)
      · simp only [List.mem_cons, List.not_mem_nil, or_false] at hz
        rcases hz with rfl | rfl
        · exact ⟨fun _ => show (Sh (a + 1)).1 = _ from ok0_1 hO ha, fun h => absurd h (by decide)⟩
        · exact ⟨fun _ => show (Sh (a + 2)).1 = _ from ok0_2 hO ha, fun h => absurd h (by decide)⟩
      · have key : ∀ k, k < 67 → ¬ k ∈ ([1, 2] : List Nat) → ¬ (zK1.1 0 k).1 = 2 ∧ ¬ (zK1.1 0 k).1 = 3 := by decide +kernel
        exact no (key k hk hz).1 (key k hk hz).2
    · by_cases hz : k ∈ ([0, 1, 2, 3, 4, 5, 6] : List Nat)
      · simp only [List.mem_cons, List.not_mem_nil, or_false] at hz
        rcases hz with rfl | rfl | rfl | rfl | rfl | rfl | rfl
        · exact ⟨fun _ => show (Sh (a + 1)).1 = _ from (by rw [ok1_0 hO ha]; rfl), fun h => absurd h (by decide)⟩
        · exact ⟨fun _ => show (Sh (a + 2)).1 = _ from (by rw [ok1_1 hO ha]; rfl), fun h => absurd h (by decide)⟩
        · exact ⟨fun _ => show (Sh (a + 3)).1 = _ from (by rw [ok1_2 hO ha]; rfl), fun h => absurd h (by decide)⟩
        · exact ⟨fun _ => show (Sh (a + 4)).1 = _ from (by rw [ok1_3 hO ha]; rfl), fun h => absurd h (by decide)⟩
        · exact ⟨fun _ => show (Sh (a + 5)).1 = _ from (by rw [ok1_4 hO ha]; rfl), fun h => absurd h (by decide)⟩
        · exact ⟨fun _ => show (Sh (a + 6)).1 = _ from ok1_5 hO ha, fun h => absurd h (by decide)⟩
        · exact ⟨fun _ => show (Sh (a + 7)).1 = _ from ok1_6 hO ha, fun h => absurd h (by decide)⟩
      · have key : ∀ k, k < 67 → ¬ k ∈ ([0, 1, 2, 3, 4, 5, 6] : List Nat) → ¬ (zK1.1 1 k).1 = 2 ∧ ¬ (zK1.1 1 k).1 = 3 := by decide +kernel
        exact no (key k hk hz).1 (key k hk hz).2
    · by_cases hz : k ∈ ([0, 1] : List Nat)
      · simp only [List.mem_cons, List.not_mem_nil, or_false] at hz
        rcases hz with rfl | rfl
        · exact ⟨fun _ => show (Sh (a + 1)).1 = _ from (by rw [ok2_0 hO ha]; rfl), fun h => absurd h (by decide)⟩
        · exact ⟨fun _ => show (Sh (a + 2)).1 = _ from (by rw [ok2_1 hO ha]; rfl), fun h => absurd h (by decide)⟩
      · have key : ∀ k, k < 67 → ¬ k ∈ ([0, 1] : List Nat) → ¬ (zK1.1 2 k).1 = 2 ∧ ¬ (zK1.1 2 k).1 = 3 := by decide +kernel
        exact no (key k hk hz).1 (key k hk hz).2
    · by_cases hz : k ∈ ([0] : List Nat)
      · rw [List.mem_singleton] at hz; subst hz; exact ⟨fun _ => show (Sh (a + 1)).1 = _ from ok3_0 hO ha, fun h => absurd h (by decide)⟩
      · have key : ∀ k, k < 67 → ¬ k ∈ ([0] : List Nat) → ¬ (zK1.1 3 k).1 = 2 ∧ ¬ (zK1.1 3 k).1 = 3 := by decide +kernel
        exact no (key k hk hz).1 (key k hk hz).2
    · by_cases hz : k ∈ ([0] : List Nat)
      · rw [List.mem_singleton] at hz; subst hz; exact ⟨fun _ => show (Sh (a + 1)).1 = _ from ok4_0 hO ha, fun h => absurd h (by decide)⟩
      · have key : ∀ k, k < 67 → ¬ k ∈ ([0] : List Nat) → ¬ (zK1.1 4 k).1 = 2 ∧ ¬ (zK1.1 4 k).1 = 3 := by decide +kernel
        exact no (key k hk hz).1 (key k hk hz).2
    · by_cases hz : k ∈ ([0, 1] : List Nat)
      · simp only [List.mem_cons, List.not_mem_nil, or_false] at hz
        rcases hz with rfl | rfl
        · exact ⟨fun _ => show (Sh (a + 1)).1 = _ from (by rw [ok5_0 hO ha]; rfl), fun h => absurd h (by decide)⟩
        · exact ⟨fun h => absurd h (by decide), fun _ => show (Sh (a - 48)).1 = _ from (by rw [ok5_1 hO ha]; rfl)⟩
      · have key : ∀ k, k < 67 → ¬ k ∈ ([0, 1] : List Nat) → ¬ (zK1.1 5 k).1 = 2 ∧ ¬ (zK1.1 5 k).1 = 3 := by decide +kernel
        exact no (key k hk hz).1 (key k hk hz).2
    · by_cases hz : k ∈ ([0, 1] : List Nat)
      · simp only [List.mem_cons, List.not_mem_nil, or_false] at hz
        rcases hz with rfl | rfl
        · exact ⟨fun _ => show (Sh (a + 1)).1 = _ from (by rw [ok6_0 hO ha]; rfl), fun h => absurd h (by decide)⟩
        · exact ⟨fun _ => show (Sh (a + 2)).1 = _ from (by rw [ok6_1 hO ha]; rfl), fun h => absurd h (by decide)⟩
      · have key : ∀ k, k < 67 → ¬ k ∈ ([0, 1] : List Nat) → ¬ (zK1.1 6 k).1 = 2 ∧ ¬ (zK1.1 6 k).1 = 3 := by decide +kernel
        exact no (key k hk hz).1 (key k hk hz).2
    · by_cases hz : k ∈ ([0, 1, 2] : List Nat)
      · simp only [List.mem_cons, List.not_mem_nil, or_false] at hz
        rcases hz with rfl | rfl | rfl
        · exact ⟨fun _ => show (Sh (a + 1)).1 = _ from (by rw [ok7_0 hO ha]; rfl), fun h => absurd h (by decide)⟩
        · exact ⟨fun _ => show (Sh (a + 2)).1 = _ from (by rw [ok7_1 hO ha]; rfl), fun h => absurd h (by decide)⟩
        · exact ⟨fun _ => show (Sh (a + 3)).1 = _ from (by rw [ok7_2 hO ha]; rfl), fun h => absurd h (by decide)⟩
      · have key : ∀ k, k < 67 → ¬ k ∈ ([0, 1, 2] : List Nat) → ¬ (zK1.1 7 k).1 = 2 ∧ ¬ (zK1.1 7 k).1 = 3 := by decide +kernel
        exact no (key k hk hz).1 (key k hk hz).2
    · by_cases hz : k ∈ ([0, 1, 2, 3, 4, 5, 6, 7, 8, 9, 10, 11] : List Nat)
      · simp only [List.mem_cons, List.not_mem_nil, or_false] at hz
        rcases hz with rfl | rfl | rfl | rfl | rfl | rfl | rfl | rfl | rfl | rfl | rfl | rfl
        · exact ⟨fun _ => show (Sh (a + 1)).1 = _ from (by rw [ok8_0 hO ha]; rfl), fun h => absurd h (by decide)⟩
        · exact ⟨fun _ => show (Sh (a + 2)).1 = _ from (by rw [ok8_1 hO ha]; rfl), fun h => absurd h (by decide)⟩
        · exact ⟨fun _ => show (Sh (a + 3)).1 = _ from (by rw [ok8_2 hO ha]; rfl), fun h => absurd h (by decide)⟩
        · exact ⟨fun _ => show (Sh (a + 4)).1 = _ from (by rw [ok8_3 hO ha]; rfl), fun h => absurd h (by decide)⟩
        · exact ⟨fun _ => show (Sh (a + 5)).1 = _ from (by rw [ok8_4 hO ha]; rfl), fun h => absurd h (by decide)⟩
        · exact ⟨fun _ => show (Sh (a + 6)).1 = _ from (by rw [ok8_5 hO ha]; rfl), fun h => absurd h (by decide)⟩
        · exact ⟨fun _ => show (Sh (a + 7)).1 = _ from (by rw [ok8_6 hO ha]; rfl), fun h => absurd h (by decide)⟩
        · exact ⟨fun _ => show (Sh (a + 8)).1 = _ from (by rw [ok8_7 hO ha]; rfl), fun h => absurd h (by decide)⟩
        · exact ⟨fun _ => show (Sh (a + 9)).1 = _ from (by rw [ok8_8 hO ha]; rfl), fun h => absurd h (by decide)⟩
        · exact ⟨fun _ => show (Sh (a + 10)).1 = _ from ok8_9 hO ha, fun h => absurd h (by decide)⟩
        · exact ⟨fun _ => show (Sh (a + 11)).1 = _ from ok8_10 hO ha, fun h => absurd h (by decide)⟩
        · exact ⟨fun _ => show (Sh (a + 12)).1 = _ from ok8_11 hO ha, fun h => absurd h (by decide)⟩
      · have key : ∀ k, k < 67 → ¬ k ∈ ([0, 1, 2, 3, 4, 5, 6, 7, 8, 9, 10, 11] : List Nat) → ¬ (zK1.1 8 k).1 = 2 ∧ ¬ (zK1.1 8 k).1 = 3 := by decide +kernel
        exact no (key k hk hz).1 (key k hk hz).2
    · have key : ∀ k, k < 67 → ¬ (zK1.1 9 k).1 = 2 ∧ ¬ (zK1.1 9 k).1 = 3 := by decide +kernel
      exact no (key k hk).1 (key k hk).2
    · by_cases hz : k ∈ ([0, 1, 2, 3, 4, 5, 6, 7, 8, 9, 10, 11] : List Nat)
      · simp only [List.mem_cons, List.not_mem_nil, or_false] at hz
        rcases hz with rfl | rfl | rfl | rfl | rfl | rfl | rfl | rfl | rfl | rfl | rfl | rfl
        · exact ⟨fun _ => show (Sh (a + 1)).1 = _ from (by rw [ok10_0 hO ha]; rfl), fun h => absurd h (by decide)⟩
        · exact ⟨fun _ => show (Sh (a + 2)).1 = _ from (by rw [ok10_1 hO ha]; rfl), fun h => absurd h (by decide)⟩
        · exact ⟨fun _ => show (Sh (a + 3)).1 = _ from (by rw [ok10_2 hO ha]; rfl), fun h => absurd h (by decide)⟩
        · exact ⟨fun _ => show (Sh (a + 4)).1 = _ from (by rw [ok10_3 hO ha]; rfl), fun h => absurd h (by decide)⟩
        · exact ⟨fun _ => show (Sh (a + 5)).1 = _ from (by rw [ok10_4 hO ha]; rfl), fun h => absurd h (by decide)⟩
        · exact ⟨fun _ => show (Sh (a + 6)).1 = _ from (by rw [ok10_5 hO ha]; rfl), fun h => absurd h (by decide)⟩
        · exact ⟨fun _ => show (Sh (a + 7)).1 = _ from (by rw [ok10_6 hO ha]; rfl), fun h => absurd h (by decide)⟩
        · exact ⟨fun _ => show (Sh (a + 8)).1 = _ from (by rw [ok10_7 hO ha]; rfl), fun h => absurd h (by decide)⟩
        · exact ⟨fun _ => show (Sh (a + 9)).1 = _ from (by rw [ok10_8 hO ha]; rfl), fun h => absurd h (by decide)⟩
        · exact ⟨fun _ => show (Sh (a + 10)).1 = _ from (by rw [ok10_9 hO ha]; rfl), fun h => absurd h (by decide)⟩
        · exact ⟨fun _ => show (Sh (a + 11)).1 = _ from (by rw [ok10_10 hO ha]; rfl), fun h => absurd h (by decide)⟩
        · exact ⟨fun _ => show (Sh (a + 12)).1 = _ from (by rw [ok10_11 hO ha]; rfl), fun h => absurd h (by decide)⟩
      · have key : ∀ k, k < 67 → ¬ k ∈ ([0, 1, 2, 3, 4, 5, 6, 7, 8, 9, 10, 11] : List Nat) → ¬ (zK1.1 10 k).1 = 2 ∧ ¬ (zK1.1 10 k).1 = 3 := by decide +kernel
        exact no (key k hk hz).1 (key k hk hz).2
    · by_cases hz : k ∈ ([0, 1, 2, 3, 4, 5, 6, 7, 8, 9, 10] : List Nat)
      · simp only [List.mem_cons, List.not_mem_nil, or_false] at hz
        rcases hz with rfl | rfl | rfl | rfl | rfl | rfl | rfl | rfl | rfl | rfl | rfl
        · exact ⟨fun _ => show (Sh (a + 1)).1 = _ from (by rw [ok11_0 hO ha]; rfl), fun h => absurd h (by decide)⟩
        · exact ⟨fun _ => show (Sh (a + 49)).1 = _ from ok11_1 hO ha, fun h => absurd h (by decide)⟩
        · exact ⟨fun _ => show (Sh (a + 312)).1 = _ from ok11_2 hO ha, fun h => absurd h (by decide)⟩
        · exact ⟨fun _ => show (Sh (a + 51)).1 = _ from ok11_3 hO ha, fun h => absurd h (by decide)⟩
        · exact ⟨fun _ => show (Sh (a + 2)).1 = _ from (by rw [ok11_4 hO ha]; rfl), fun h => absurd h (by decide)⟩
        · exact ⟨fun _ => show (Sh (a + 3)).1 = _ from ok11_5 hO ha, fun h => absurd h (by decide)⟩
        · exact ⟨fun _ => show (Sh (a + 11)).1 = _ from ok11_6 hO ha, fun h => absurd h (by decide)⟩
        · exact ⟨fun _ => show (Sh (a + 14)).1 = _ from ok11_7 hO ha, fun h => absurd h (by decide)⟩
        · exact ⟨fun _ => show (Sh (a + 17)).1 = _ from ok11_8 hO ha, fun h => absurd h (by decide)⟩
        · exact ⟨fun _ => show (Sh (a + 21)).1 = _ from (by rw [ok11_9 hO ha]; rfl), fun h => absurd h (by decide)⟩
        · exact ⟨fun _ => show (Sh (a + 22)).1 = _ from (by rw [ok11_10 hO ha]; rfl), fun h => absurd h (by decide)⟩
      · have key : ∀ k, k < 67 → ¬ k ∈ ([0, 1, 2, 3, 4, 5, 6, 7, 8, 9, 10] : List Nat) → ¬ (zK1.1 11 k).1 = 2 ∧ ¬ (zK1.1 11 k).1 = 3 := by decide +kernel
        exact no (key k hk hz).1 (key k hk hz).2
    · by_cases hz : k ∈ ([6, 7, 8, 9, 10, 11, 12, 13, 14, 15, 16, 22, 23, 24, 25, 26, 27, 28, 29, 30, 31, 33, 41, 42, 43, 47, 48, 49, 50, 51, 54, 55, 56, 57, 58, 65] : List Nat)
      · simp only [List.mem_cons, List.not_mem_nil, or_false] at hz
        rcases hz with rfl | rfl | rfl | rfl | rfl | rfl | rfl | rfl | rfl | rfl | rfl | rfl | rfl | rfl | rfl | rfl | rfl | rfl | rfl | rfl | rfl | rfl | rfl | rfl | rfl | rfl | rfl | rfl | rfl | rfl | rfl | rfl | rfl | rfl | rfl | rfl
        · exact ⟨fun _ => show (Sh (a + 1)).1 = _ from (by rw [ok12_6 hO ha]; rfl), fun h => absurd h (by decide)⟩
        · exact ⟨fun _ => show (Sh (a + 2)).1 = _ from (by rw [ok12_7 hO ha]; rfl), fun h => absurd h (by decide)⟩
        · exact ⟨fun _ => show (Sh (a + 3)).1 = _ from (by rw [ok12_8 hO ha]; rfl), fun h => absurd h (by decide)⟩
        · exact ⟨fun _ => show (Sh (a + 4)).1 = _ from (by rw [ok12_9 hO ha]; rfl), fun h => absurd h (by decide)⟩
        · exact ⟨fun _ => show (Sh (a + 5)).1 = _ from (by rw [ok12_10 hO ha]; rfl), fun h => absurd h (by decide)⟩
        · exact ⟨fun _ => show (Sh (a + 6)).1 = _ from (by rw [ok12_11 hO ha]; rfl), fun h => absurd h (by decide)⟩
        · exact ⟨fun _ => show (Sh (a + 7)).1 = _ from (by rw [ok12_12 hO ha]; rfl), fun h => absurd h (by decide)⟩
        · exact ⟨fun _ => show (Sh (a + 8)).1 = _ from (by rw [ok12_13 hO ha]; rfl), fun h => absurd h (by decide)⟩
        · exact ⟨fun _ => show (Sh (a + 9)).1 = _ from (by rw [ok12_14 hO ha]; rfl), fun h => absurd h (by decide)⟩
        · exact ⟨fun _ => show (Sh (a + 10)).1 = _ from (by rw [ok12_15 hO ha]; rfl), fun h => absurd h (by decide)⟩
        · exact ⟨fun _ => show (Sh (a + 11)).1 = _ from (by rw [ok12_16 hO ha]; rfl), fun h => absurd h (by decide)⟩
        · exact ⟨fun _ => show (Sh (a + 12)).1 = _ from (by rw [ok12_22 hO ha]; rfl), fun h => absurd h (by decide)⟩
        · exact ⟨fun _ => show (Sh (a + 13)).1 = _ from (by rw [ok12_23 hO ha]; rfl), fun h => absurd h (by decide)⟩
        · exact ⟨fun _ => show (Sh (a + 14)).1 = _ from (by rw [ok12_24 hO ha]; rfl), fun h => absurd h (by decide)⟩
        · exact ⟨fun _ => show (Sh (a + 15)).1 = _ from (by rw [ok12_25 hO ha]; rfl), fun h => absurd h (by decide)⟩
        · exact ⟨fun _ => show (Sh (a + 16)).1 = _ from (by rw [ok12_26 hO ha]; rfl), fun h => absurd h (by decide)⟩
        · exact ⟨fun _ => show (Sh (a + 17)).1 = _ from (by rw [ok12_27 hO ha]; rfl), fun h => absurd h (by decide)⟩
        · exact ⟨fun _ => show (Sh (a + 18)).1 = _ from (by rw [ok12_28 hO ha]; rfl), fun h => absurd h (by decide)⟩
        · exact ⟨fun _ => show (Sh (a + 19)).1 = _ from (by rw [ok12_29 hO ha]; rfl), fun h => absurd h (by decide)⟩
        · exact ⟨fun _ => show (Sh (a + 20)).1 = _ from (by rw [ok12_30 hO ha]; rfl), fun h => absurd h (by decide)⟩
        · exact ⟨fun _ => show (Sh (a + 21)).1 = _ from (by rw [ok12_31 hO ha]; rfl), fun h => absurd h (by decide)⟩
        · exact ⟨fun _ => show (Sh (a + 22)).1 = _ from (by rw [ok12_33 hO ha]; rfl), fun h => absurd h (by decide)⟩
        · exact ⟨fun _ => show (Sh (a + 23)).1 = _ from (by rw [ok12_41 hO ha]; rfl), fun h => absurd h (by decide)⟩
        · exact ⟨fun _ => show (Sh (a + 24)).1 = _ from (by rw [ok12_42 hO ha]; rfl), fun h => absurd h (by decide)⟩
        · exact ⟨fun _ => show (Sh (a + 25)).1 = _ from (by rw [ok12_43 hO ha]; rfl), fun h => absurd h (by decide)⟩
        · exact ⟨fun _ => show (Sh (a + 26)).1 = _ from (by rw [ok12_47 hO ha]; rfl), fun h => absurd h (by decide)⟩
        · exact ⟨fun _ => show (Sh (a + 27)).1 = _ from (by rw [ok12_48 hO ha]; rfl), fun h => absurd h (by decide)⟩
        · exact ⟨fun _ => show (Sh (a + 28)).1 = _ from (by rw [ok12_49 hO ha]; rfl), fun h => absurd h (by decide)⟩
        · exact ⟨fun _ => show (Sh (a + 29)).1 = _ from (by rw [ok12_50 hO ha]; rfl), fun h => absurd h (by decide)⟩
        · exact ⟨fun _ => show (Sh (a + 30)).1 = _ from (by rw [ok12_51 hO ha]; rfl), fun h => absurd h (by decide)⟩
        · exact ⟨fun _ => show (Sh (a + 31)).1 = _ from (by rw [ok12_54 hO ha]; rfl), fun h => absurd h (by decide)⟩
        · exact ⟨fun _ => show (Sh (a + 32)).1 = _ from (by rw [ok12_55 hO ha]; rfl), fun h => absurd h (by decide)⟩
        · exact ⟨fun _ => show (Sh (a + 33)).1 = _ from (by rw [ok12_56 hO ha]; rfl), fun h => absurd h (by decide)⟩
        · exact ⟨fun _ => show (Sh (a + 34)).1 = _ from (by rw [ok12_57 hO ha]; rfl), fun h => absurd h (by decide)⟩
        · exact ⟨fun _ => show (Sh (a + 35)).1 = _ from (by rw [ok12_58 hO ha]; rfl), fun h => absurd h (by decide)⟩
        · exact ⟨fun _ => show (Sh (a + 36)).1 = _ from (by rw [ok12_65 hO ha]; rfl), fun h => absurd h (by decide)⟩
      · have key : ∀ k, k < 67 → ¬ k ∈ ([6, 7, 8, 9, 10, 11, 12, 13, 14, 15, 16, 22, 23, 24, 25, 26, 27, 28, 29, 30, 31, 33, 41, 42, 43, 47, 48, 49, 50, 51, 54, 55, 56, 57, 58, 65] : List Nat) → ¬ (zK1.1 12 k).1 = 2 ∧ ¬ (zK1.1 12 k).1 = 3 := by decide +kernel
        exact no (key k hk hz).1 (key k hk hz).2
  · have e := (kk_hi (ci := ci) (k := k) (by omega)).1
    exact no (by rw [e]; decide) (by rw [e]; decide)
theorem okx (hO : zOK Sh) {a t n j : Nat} (ht : t < 3) (ha : Sh a = (t + 3, n)) (hj : j < n) (hn : n = if t = 0 then 8 else if t = 1 then 28 else 84) : (Sh (a + (zK1.2 t).2.1 + (zK1.2 t).2.2 * j)).1 = (zK0.2 t).2.1 := by
  have : t = 0 ∨ t = 1 ∨ t = 2 := by omega
  rcases this with rfl | rfl | rfl
  · subst hn; exact okA0 hO ha hj
  · subst hn; exact okA1 hO ha hj
  · subst hn; exact okA2 hO ha hj
/-- rows of references are as long as they are -/
def zRw (Sh : zSh) : Prop := ∀ a t n, Sh a = (t + 3, n) → t < 3 → n = if t = 0 then 8 else if t = 1 then 28 else 84
/-- the memory with all references told -/
def fill (Sh : zSh) (μ : zM) : zM := (μ.1, μ.2.1, μ.2.2.1, μ.2.2.2.1, fun k a => if 7 ≤ (Sh a).1 ∧ k / 100 = (Sh a).1 - 7 then (if (zK1.1 (k / 100) (k % 100)).1 = 2 then some (a + (zK1.1 (k / 100) (k % 100)).2) else if (zK1.1 (k / 100) (k % 100)).1 = 3 then some (a - (zK1.1 (k / 100) (k % 100)).2) else gR μ k a) else gR μ k a, fun a j => if 3 ≤ (Sh a).1 ∧ (Sh a).1 < 6 then (if j < (Sh a).2 then some (a + (zK1.2 ((Sh a).1 - 3)).2.1 + (zK1.2 ((Sh a).1 - 3)).2.2 * j) else none) else gX μ a j)
theorem fill_ok : FL Sh μ (fill Sh μ) := by
  refine ⟨fun _ _ => rfl, fun _ _ => rfl, fun _ _ => rfl, fun _ _ => rfl, fun a ci k h1 h2 => ?_, fun a ci k h1 h2 => ?_, fun a ci k h1 h2 => ?_, fun a t n j h1 h2 h3 => ?_, fun a n j h1 => ?_⟩
  all_goals first | (have hk : ci < 13 ∧ k < 67 := (by
      by_cases c : ci < 13 ∧ k < 67
      · exact c
      · have e := (kk_hi (ci := ci) (k := k) (by omega)).1
        rw [e] at h2
        exact absurd h2 (by decide))) | skip
  · show (if 7 ≤ (Sh a).1 ∧ (100 * ci + k) / 100 = (Sh a).1 - 7 then _ else _) = _
    rw [show (100 * ci + k) / 100 = ci by omega, show (100 * ci + k) % 100 = k by omega, if_pos (by omega), if_pos h2]
  · show (if 7 ≤ (Sh a).1 ∧ (100 * ci + k) / 100 = (Sh a).1 - 7 then _ else _) = _
    rw [show (100 * ci + k) / 100 = ci by omega, show (100 * ci + k) % 100 = k by omega, if_pos (by omega), if_neg (by omega), if_pos h2]
  · show (if 7 ≤ (Sh a).1 ∧ (100 * ci + k) / 100 = (Sh a).1 - 7 then _ else _) = _
    rw [show (100 * ci + k) / 100 = ci by omega, show (100 * ci + k) % 100 = k by omega, if_pos (by omega), if_neg (by omega), if_neg (by omega)]
  · show (if 3 ≤ (Sh a).1 ∧ (Sh a).1 < 6 then _ else _) = _
    rw [h1, if_pos (by show 3 ≤ t + 3 ∧ t + 3 < 6; omega), if_pos h3]; rfl
  · show (if 3 ≤ (Sh a).1 ∧ (Sh a).1 < 6 then _ else _) = _
    rw [h1, if_neg (by show ¬ (3 ≤ 6 ∧ 6 < 6); omega)]
/-- from places to references told one by one -/
theorem FL.up (h : FL Sh μ μ0) (hO : zOK Sh) (hR : zRw Sh) (h0 : ∀ a t n j, Sh a = (t + 3, n) → t < 3 → n ≤ j → gX μ0 a j = none) (q : zH D zK1 Sh μ H) : zH D zK0 Sh μ0 H := by
  refine ⟨fun a => (h.cell a).mp (q.1 a), q.2.1, fun a ci k w h1 h2 h3 => ?_, fun a t n j w h4 h1 h2 h3 => ?_⟩
  · rcases kk ci k with ⟨k1, k2⟩ | ⟨k1, k2⟩ | ⟨k1, k2⟩ | ⟨k1, k2⟩
    · rw [k2] at h2; exact absurd h2 (by decide)
    · rw [k2] at h2; exact absurd h2 (by decide)
    · rcases k1 with k1 | k1
      · have e := h.2.2.2.2.1 a ci k h1 k1
        rw [e] at h3
        rw [← Option.some.inj h3]
        exact (okk hO ci k a h1).1 k1
      · have e := h.2.2.2.2.2.1 a ci k h1 k1
        rw [e] at h3
        rw [← Option.some.inj h3]
        exact (okk hO ci k a h1).2 k1
    · rw [k2]
      exact q.2.2.1 a ci k w h1 k1 (by rw [← h.2.2.2.2.2.2.1 a ci k h1 k1]; exact h3)
  · by_cases c : t < 3
    · by_cases c2 : j < n
      · have e := h.2.2.2.2.2.2.2.1 a t n j h1 c c2
        rw [e] at h3
        rw [← Option.some.inj h3]
        exact okx hO c h1 c2 (hR a t n h1 c)
      · rw [h0 a t n j h1 c (by omega)] at h3; cases h3
    · have : t = 3 := by omega
      subst this
      exact q.2.2.2 a 3 n j w h4 h1 rfl (by rw [← h.2.2.2.2.2.2.2.2 a n j h1]; exact h3)
theorem fill_0 {a t n j : Nat} (h1 : Sh a = (t + 3, n)) (h2 : t < 3) (h3 : n ≤ j) : gX (fill Sh μ) a j = none := by
  show (if 3 ≤ (Sh a).1 ∧ (Sh a).1 < 6 then _ else _) = _
  rw [h1, if_pos (by show 3 ≤ t + 3 ∧ t + 3 < 6; omega), if_neg (by show ¬ j < n; omega)]
theorem z_to0 {X : zCx} {T : zTt} {pc : Nat} {lv : List (Nat × Value)} {st : List Value} (hO : zOK T.1) (hR : zRw T.1) (k : zZ zK0 X T (fill T.1 μ) pc lv st) : zZ zK1 X T μ pc lv st := by
  obtain ⟨p, l, e, R, s, m, args, below, meth, c, nL, Q, D⟩ := X
  intro H locs ls h1 h2 h3 h4
  exact k H locs ls (FL.up fill_ok hO hR (fun a t n j a1 a2 a3 => fill_0 a1 a2 a3) h1) h2 h3 h4
theorem z_to1 {X : zCx} {T : zTt} {pc : Nat} {lv : List (Nat × Value)} {st : List Value} (hf : FL T.1 μ μ0) (k : zZ zK1 X T μ pc lv st) : zZ zK0 X T μ0 pc lv st := by
  obtain ⟨p, l, e, R, s, m, args, below, meth, c, nL, Q, D⟩ := X
  intro H locs ls h1 h2 h3 h4
  exact k H locs ls (hf.down h1) h2 h3 h4
end zCv
