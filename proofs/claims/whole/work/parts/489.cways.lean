/-! CLASS: the ways that are found -/
def FrD (o n : Nat) (μ μ' : zM) : Prop := ∀ a, a < o ∨ o + n ≤ a → SA a μ μ'
/-- a block of `n` cells from `o` on lies outside the state and its wiring -/
def Out (o n s w : Nat) : Prop := (o + n ≤ s ∨ s + 261 ≤ o) ∧ (o + n ≤ w ∨ w + 13 ≤ o)
def wd1 (S : zS) (b : Nat) (w : Nat → Nat) : Nat → Nat := fun k => if k = b * 8 + b then (if ceq (S 20 b) 1 = true then 0 else 1000000) else w k
def wsj (c : Nat) (w : Nat → Nat) (j : Nat) : Nat → Nat := fun k => if k < j then wst c w k else w k
/-- the state stands, the table of ways is `w`, no cell outside the block has changed -/
def DQ (N : zN) (s w0 o : Nat) (S : zS) (μ0 μ : zM) (w : Nat → Nat) : Prop := CS N s w0 μ μ S ∧ FrD o 8 μ0 μ ∧ ∀ k, k < 64 → gA μ (o + 1) k = nI (w k)
def wset (W : Nat → Nat) (k n : Nat) : Nat → Nat := fun k' => if k' = k then n else W k'
section zD2
variable {N : zN} {s w o n : Nat} {μ0 μ μ' : zM} {S : zS} {a b c d e f i j k : Nat} {v : Int32} {W V : Nat → Nat}
theorem FrD.rf : FrD o n μ μ := fun _ _ => SA.rf
theorem FrD.tr (h : FrD o n μ0 μ) (h2 : FrD o n μ μ') : FrD o n μ0 μ' := fun a ha => (h a ha).tr (h2 a ha)
theorem SA.wA (h : a ≠ b) : SA a μ (sA μ b j v) := ⟨fun _ => rfl, fun _ => rfl, fun _ => rfl, fun j' => by rw [gA_sA, if_neg (fun x => h x.1)], fun _ => rfl, fun _ => rfl⟩
theorem SA.wF (h : a ≠ b) : SA a μ (sF μ k b v) := ⟨fun k' => by rw [gF_sF, if_neg (fun x => h x.2)], fun _ => rfl, fun _ => rfl, fun _ => rfl, fun _ => rfl, fun _ => rfl⟩
theorem SA.wB {x : Bool} (h : a ≠ b) : SA a μ (sB μ k b x) := ⟨fun _ => rfl, fun k' => by rw [gB_sB, if_neg (fun x => h x.2)], fun _ => rfl, fun _ => rfl, fun _ => rfl, fun _ => rfl⟩
theorem FrD.wA (h : FrD o n μ0 μ) (h1 : o ≤ b) (h2 : b < o + n) : FrD o n μ0 (sA μ b j v) := h.tr (fun a ha => SA.wA (by omega))
theorem FrD.wF (h : FrD o n μ0 μ) (h1 : o ≤ b) (h2 : b < o + n) : FrD o n μ0 (sF μ k b v) := h.tr (fun a ha => SA.wF (by omega))
theorem FrD.wB {x : Bool} (h : FrD o n μ0 μ) (h1 : o ≤ b) (h2 : b < o + n) : FrD o n μ0 (sB μ k b x) := h.tr (fun a ha => SA.wB (by omega))
theorem CS.fd (h : CS N s w μ0 μ S) (ho : Out o n s w) (hf : FrD o n μ μ') : CS N s w μ' μ' S :=
  h.mv (fun a h1 h2 => hf a (by have := ho.1; omega)) (fun a h1 h2 => hf a (by have := ho.2; omega))
theorem iMin_nI (ha : a < 2 ^ 31) (hb : b < 2 ^ 31) : iMin (nI a) (nI b) = nI (min a b) := by
  unfold iMin
  have e := clt_nI hb ha
  unfold clt at e
  by_cases c : b < a
  · rw [decide_eq_true c, decide_eq_true_iff] at e
    rw [if_pos e, show min a b = b by omega]
  · rw [decide_eq_false c, decide_eq_false_iff_not] at e
    rw [if_neg e, show min a b = a by omega]
theorem wd1_f : ∀ n, n ≤ 8 → pfold (wd1 S) n (fun _ => 1000000) k = if k / 8 = k % 8 ∧ k / 8 < n ∧ S 20 (k / 8) = 1 then 0 else 1000000
  | 0, _ => (if_neg (by omega)).symm
  | n + 1, hn => by
    show wd1 S n (pfold (wd1 S) n (fun _ => 1000000)) k = _
    unfold wd1
    have ih := wd1_f n (by omega)
    unfold wd1 at ih
    rw [ih]
    by_cases c : k = n * 8 + n
    · rw [if_pos c, show k / 8 = n by omega]
      by_cases c2 : S 20 n = 1
      · rw [if_pos (show ceq (S 20 n) 1 = true from ceq_t c2), if_pos ⟨by omega, by omega, c2⟩]
      · rw [if_neg (show ¬ ceq (S 20 n) 1 = true from fun x => c2 (ceq_of x)), if_neg (fun x => c2 x.2.2)]
    · rw [if_neg c]
      by_cases c2 : k / 8 = k % 8 ∧ k / 8 < n ∧ S 20 (k / 8) = 1
      · rw [if_pos c2, if_pos ⟨c2.1, by omega, c2.2.2⟩]
      · rw [if_neg c2, if_neg (fun x => c2 ⟨x.1, by have := x.1; have := x.2.1; omega, x.2.2⟩)]
theorem wst_row (h : ∀ k, W k ≤ 1000000) (hc : c < 8) : wst c W (8 * a + c) = W (8 * a + c) := by
  unfold wst
  rw [show (8 * a + c) / 8 = a by omega]
  have := wad_le (y := W (8 * c + (8 * a + c) % 8)) (h (8 * a + c))
  omega
theorem wst_col (h : ∀ k, W k ≤ 1000000) (hb : b < 8) : wst c W (8 * c + b) = W (8 * c + b) := by
  unfold wst
  rw [show (8 * c + b) % 8 = b by omega]
  have := wad_le2 (x := W (8 * ((8 * c + b) / 8) + c)) (h (8 * c + b))
  omega
theorem wsj_row (h : ∀ k, W k ≤ 1000000) (hc : c < 8) : wsj c W j (8 * a + c) = W (8 * a + c) := by
  unfold wsj
  by_cases q : 8 * a + c < j
  · rw [if_pos q, wst_row h hc]
  · rw [if_neg q]
theorem wsj_col (h : ∀ k, W k ≤ 1000000) (hb : b < 8) : wsj c W j (8 * c + b) = W (8 * c + b) := by
  unfold wsj
  by_cases q : 8 * c + b < j
  · rw [if_pos q, wst_col h hb]
  · rw [if_neg q]
theorem wst_v (h : ∀ k, W k ≤ 1000000) : min (W k) (W (8 * (k / 8) + c) + W (8 * c + k % 8)) = wst c W k := by
  unfold wst wad
  have h1 := h k
  by_cases q : W (8 * (k / 8) + c) < 1000000 ∧ W (8 * c + k % 8) < 1000000
  · rw [if_pos q]
  · rw [if_neg q]
    omega
theorem DQ.wW (q : DQ N s w o S μ0 μ W) (ho : Out o 8 s w) (hk : k < 64) (hv : v = nI n) : DQ N s w o S μ0 (sA μ (o + 1) k v) (wset W k n) := by
  refine ⟨q.1.fd ho (FrD.rf.wA (by omega) (by omega)), q.2.1.wA (by omega) (by omega), fun k' hk' => ?_⟩
  rw [gA_sA]
  unfold wset
  by_cases c : k' = k
  · rw [if_pos ⟨rfl, c⟩, if_pos c, hv]
  · rw [if_neg (fun x => c x.2), if_neg c]; exact q.2.2 k' hk'
theorem C_w1 (q : DQ N s w o S μ0 μ (fun _ => 1000000)) (ho : Out o 8 s w) : ∃ μ', zloop (fun q => f1_findWays_L1 o s q.1 q.2) 1000000 (0, μ) = some (nI (nB N), μ') ∧ DQ N s w o S μ0 μ' (pfold (wd1 S) (nB N) (fun _ => 1000000)) := by
  have b8 := q.1.nw.b8
  exact lp (Q := DQ N s w o S μ0) (body := fun q => f1_findWays_L1 o s q.1 q.2) nI (wd1 S) (nB N) (S := fun _ => 1000000) (μ := μ) (x0 := 0) (by
    intro i μ1 hi q1
    generalize pfold (wd1 S) i (fun _ => 1000000) = W at *
    show ∃ μ', f1_findWays_L1 o s (nI i) μ1 = some (.inl (nI (i + 1), μ')) ∧ _
    unfold f1_findWays_L1
    rw [q1.1.c_wir, obs, q1.1.w_b, clt_nI (by omega) (by omega), decide_eq_true hi, if_pos rfl, rI_nI (by omega) (by omega), obs, q1.1.r_on (by omega), mulR8, nI_add]
    by_cases c : ceq (S 20 i) 1 = true
    · rw [if_pos c, obs, wA_nI (by omega) (by omega), obs, obs, nI_1]
      refine ⟨_, rfl, ?_⟩
      have := q1.wW (k := i * 8 + i) (n := 0) (v := 0) ho (by omega) rfl
      unfold wd1; rw [if_pos c]; exact this
    · rw [if_neg c, obs, wA_nI (by omega) (by omega), obs, obs, nI_1]
      refine ⟨_, rfl, ?_⟩
      have := q1.wW (k := i * 8 + i) (n := 1000000) (v := 1000000) ho (by omega) rfl
      unfold wd1; rw [if_neg c]; exact this) (by
    intro μ1 q1
    show f1_findWays_L1 o s (nI (nB N)) μ1 = _
    unfold f1_findWays_L1
    rw [q1.1.c_wir, obs, q1.1.w_b, clt_nI (by omega) (by omega), decide_eq_false (by omega), if_neg (by decide)]) (by omega) q
theorem C_w2 (q : DQ N s w o S μ0 μ (w0 N S)) (ho : Out o 8 s w) : ∃ μ', zloop (fun q => f1_findWays_L2 o s q.1 q.2) 1000000 (0, μ) = some (nI (2 * nL N), μ') ∧ DQ N s w o S μ0 μ' (wE N S) := by
  have nw := q.1.nw
  have b8 := nw.b8; have l14 := nw.l14
  exact lp (Q := DQ N s w o S μ0) (body := fun q => f1_findWays_L2 o s q.1 q.2) nI (we1 N S) (2 * nL N) (S := w0 N S) (μ := μ) (x0 := 0) (by
    intro i μ1 hi q1
    have t := wE_t (S := S) nw i (by omega)
    generalize pfold (we1 N S) i (w0 N S) = W at *
    show ∃ μ', f1_findWays_L2 o s (nI i) μ1 = some (.inl (nI (i + 1), μ')) ∧ _
    have x1 := nw.bo_b hi
    have x2 := nw.bo_b (fe_lt hi)
    have x3 := nw.c200 (l := i / 2) (by omega)
    have x4 := (t (bo N i * 8 + bo N (fe i))).1
    unfold f1_findWays_L2
    rw [q1.1.c_wir, obs, q1.1.w_l, mulQ2, clt_nI (by omega) (by omega), decide_eq_true hi, if_pos rfl, C_up q1.1 hi, obs]
    by_cases c : up N S i = true
    · rw [if_pos c]
      simp only [obs]
      rw [rA_nI (by omega) (by omega), obs, q1.1.v_bo hi, q1.1.w_far hi, obs, mulR8, nI_add, rA_nI (by omega) (by omega), obs, hf_x (by omega), rA_nI (by omega) (by omega), obs, q1.1.v_cst (by omega), q1.2.2 _ (by omega), iMin_nI (by omega) (by omega), wA_nI (by omega) (by omega), obs, nI_1]
      refine ⟨_, rfl, ?_⟩
      have := q1.wW (k := bo N i * 8 + bo N (fe i)) (n := min (W (bo N i * 8 + bo N (fe i))) (cst N (i / 2))) ho (by omega) rfl
      refine ⟨this.1, this.2.1, fun k hk => ?_⟩
      rw [this.2.2 k hk]
      unfold wset we1
      by_cases c2 : k = bo N i * 8 + bo N (fe i)
      · rw [if_pos c2, if_pos ⟨c, by omega⟩, c2]
      · rw [if_neg c2, if_neg (by omega)]
    · rw [if_neg c, obs, nI_1]
      refine ⟨_, rfl, q1.1, q1.2.1, fun k hk => ?_⟩
      unfold we1
      rw [if_neg (fun x => c x.1)]; exact q1.2.2 k hk) (by
    intro μ1 q1
    show f1_findWays_L2 o s (nI (2 * nL N)) μ1 = _
    unfold f1_findWays_L2
    rw [q1.1.c_wir, obs, q1.1.w_l, mulQ2, clt_nI (by omega) (by omega), decide_eq_false (by omega), if_neg (by decide)]) (by omega) q
theorem C_w4 (q : DQ N s w o S μ0 μ W) (ho : Out o 8 s w) (hc : c < 8) (hW : ∀ k, W k ≤ 1000000) : ∃ μ', zloop (fun q => f1_findWays_L4 o (nI c) q.1 q.2) 1000000 (0, μ) = some (nI 64, μ') ∧ DQ N s w o S μ0 μ' (wst c W) := by
  obtain ⟨μ', e, h⟩ := lp (Q := fun μ j => DQ N s w o S μ0 μ (wsj c W j)) (body := fun q => f1_findWays_L4 o (nI c) q.1 q.2) nI (fun i (_ : Nat) => i + 1) 64 (S := 0) (μ := μ) (x0 := 0) (by
    intro i μ1 hi q1
    rw [pf_n] at q1
    show ∃ μ', f1_findWays_L4 o (nI c) (nI i) μ1 = some (.inl (nI (i + 1), μ')) ∧ DQ N s w o S μ0 μ' (wsj c W (i + 1))
    have e1 : wsj c W i (i / 8 * 8 + c) = W (8 * (i / 8) + c) := by rw [show i / 8 * 8 + c = 8 * (i / 8) + c by omega]; exact wsj_row hW hc
    have e2 : wsj c W i (c * 8 + i % 8) = W (8 * c + i % 8) := by rw [show c * 8 + i % 8 = 8 * c + i % 8 by omega]; exact wsj_col hW (by omega)
    have e3 : wsj c W i i = W i := by unfold wsj; rw [if_neg (by omega)]
    have h1 := hW (8 * (i / 8) + c); have h2 := hW (8 * c + i % 8); have h3 := hW i
    unfold f1_findWays_L4
    rw [cltR64 (by omega), decide_eq_true hi, if_pos rfl, iDivR8 (by omega), obs, mulR8, nI_add, rA_nI (by omega) (by omega), obs, iRemR8 (by omega), obs, mulR8, nI_add, rA_nI (by omega) (by omega), obs, obs, rA_nI (by omega) (by omega), obs, q1.2.2 _ (by omega), q1.2.2 _ (by omega), q1.2.2 _ (by omega), e1, e2, e3, nI_add, iMin_nI (by omega) (by omega), wst_v hW, wA_nI (by omega) (by omega), obs, obs, nI_1]
    refine ⟨_, rfl, ?_⟩
    have := q1.wW (k := i) (n := wst c W i) ho (by omega) rfl
    refine ⟨this.1, this.2.1, fun k hk => ?_⟩
    rw [this.2.2 k hk]
    unfold wset wsj
    by_cases c2 : k = i
    · rw [if_pos c2, if_pos (by omega), c2]
    · rw [if_neg c2]
      by_cases c3 : k < i
      · rw [if_pos c3, if_pos (by omega)]
      · rw [if_neg c3, if_neg (by omega)]) (by
    intro μ1 q1
    rfl) (by omega) (show DQ N s w o S μ0 μ (wsj c W 0) from ⟨q.1, q.2.1, fun k hk => by unfold wsj; rw [if_neg (by omega)]; exact q.2.2 k hk⟩)
  rw [pf_n] at h
  refine ⟨μ', e, h.1, h.2.1, fun k hk => ?_⟩
  rw [h.2.2 k hk]
  unfold wsj
  rw [if_pos hk]
theorem C_w3 (q : DQ N s w o S μ0 μ (wE N S)) (ho : Out o 8 s w) : ∃ μ', zloop (fun q => f1_findWays_L3 o q.1 q.2) 1000000 (0, μ) = some (nI 8, μ') ∧ DQ N s w o S μ0 μ' (wW N S) := by
  have nw := q.1.nw
  exact lp (Q := DQ N s w o S μ0) (body := fun q => f1_findWays_L3 o q.1 q.2) nI wst 8 (S := wE N S) (μ := μ) (x0 := 0) (by
    intro i μ1 hi q1
    have t := wW_lt (S := S) nw (n := i) (by omega)
    generalize pfold wst i (wE N S) = W at *
    show ∃ μ', f1_findWays_L3 o (nI i) μ1 = some (.inl (nI (i + 1), μ')) ∧ _
    obtain ⟨μ2, e2, q2⟩ := C_w4 q1 ho hi (fun k => (t k).1)
    unfold f1_findWays_L3
    rw [cltR8 (by omega), decide_eq_true hi, if_pos rfl, e2, ozb2, obs, nI_1]
    exact ⟨_, rfl, q2⟩) (by
    intro μ1 q1
    rfl) (by omega) q
theorem C_ways (h : CS N s w μ μ S) (ho : Out o 8 s w) : ∃ μ', f1_findWays o s μ = some μ' ∧ DQ N s w o S μ μ' (wW N S) := by
  have q0 : DQ N s w o S μ (fillA μ (o + 1) 64 1000000) (fun _ => 1000000) := by
    have f : FrD o 8 μ (fillA μ (o + 1) 64 1000000) := fun a ha => ⟨fun _ => rfl, fun _ => rfl, fun _ => rfl, fun j => if_neg (by omega), fun _ => rfl, fun _ => rfl⟩
    exact ⟨h.fd ho f, f, fun k hk => if_pos ⟨rfl, hk⟩⟩
  obtain ⟨μ1, e1, q1⟩ := C_w1 q0 ho
  have q1' : DQ N s w o S μ μ1 (w0 N S) := by
    refine ⟨q1.1, q1.2.1, fun k hk => ?_⟩
    rw [q1.2.2 k hk, wd1_f _ h.nw.b8]; rfl
  obtain ⟨μ2, e2, q2⟩ := C_w2 q1' ho
  obtain ⟨μ3, e3, q3⟩ := C_w3 q2 ho
  refine ⟨μ3, ?_, q3⟩
  unfold f1_findWays fJ_fill
  rw [obs, e1, ozb2, e2, ozb2, e3, ozb2]
end zD2
