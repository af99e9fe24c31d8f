/-! REFERENCE: the ways that are laid -/
def fI (x : Nat) : Nat := if x < 1000000 then x else 100000000
def EQ (N : zN) (m B : Nat) (S : zS) (ν0 ν : zM) (W : Nat → Nat) : Prop := MS N m B ν ν S ∧ FrD (m + 28) 1 ν0 ν ∧ ∀ k, k < 64 → gA ν (m + 28) k = nI (fI (W k))
section zD3
variable {N : zN} {m B o n : Nat} {ν0 ν ν' : zM} {S : zS} {a b c d e f i j k l M : Nat} {v : Int32} {W V : Nat → Nat}
theorem MS.fd (q : MS N m B ν0 ν S) (ho : m + 28 ≤ o) (hf : FrD o n ν ν') : MS N m B ν' ν' S := by
  have A : ∀ d j, d < 28 → gA ν' (m + d) j = gA ν (m + d) j := fun d j hd => (hf (m + d) (by omega)).2.2.2.1 j
  have F : ∀ k, gF ν' k m = gF ν k m := fun k => (hf m (by omega)).1 k
  exact M0.ms (q.row0.mv (fun k _ _ => F k) (fun d j h1 h2 => A d j (by omega)) (fun j _ _ => A 24 j (by omega)) (fun j => A 26 j (by omega)) (fun j => A 27 j (by omega))) (by rw [F]; exact q.bs) q.2.2.1.2.2.2
theorem MS.wD (q : MS N m B ν0 ν S) (ho : m + 28 ≤ a) : MS N m B (sA ν a j v) (sA ν a j v) S := q.fd (n := 1) ho (FrD.rf.wA (by omega) (by omega))
theorem EQ.wW (q : EQ N m B S ν0 ν W) (hk : k < 64) (hv : v = nI (fI n)) : EQ N m B S ν0 (sA ν (m + 28) k v) (wset W k n) := by
  refine ⟨q.1.wD (by omega), q.2.1.wA (by omega) (by omega), fun k' hk' => ?_⟩
  rw [gA_sA]
  unfold wset
  by_cases c : k' = k
  · rw [if_pos ⟨rfl, c⟩, if_pos c, hv]
  · rw [if_neg (fun x => c x.2), if_neg c]; exact q.2.2 k' hk'
theorem least_nI (ha : a < 2 ^ 31) (hb : b < 2 ^ 31) : f12_least (nI a) (nI b) ν = some (nI (min a b)) := by
  unfold f12_least
  rw [clt_nI ha hb]
  by_cases c : a < b
  · rw [decide_eq_true c, if_pos rfl, obs, show min a b = a by omega]
  · rw [decide_eq_false c, if_neg (by decide), obs, show min a b = b by omega]
theorem fI_lt (x : Nat) : fI x ≤ 100000000 := by unfold fI; split <;> omega
theorem fI_min {x c : Nat} (hc : c ≤ 200) : min (fI x) c = fI (min x c) := by
  unfold fI
  rw [if_pos (show min x c < 1000000 by omega)]
  split <;> omega
theorem wst_out (h : WT N M W) (hq : nB N ≤ k / 8 ∨ nB N ≤ k % 8 ∨ (nB N ≤ c ∧ c < 8)) : wst c W k = W k := by
  have h1 := h k
  have h2 := h (8 * (k / 8) + c)
  have h3 := h (8 * c + k % 8)
  unfold wst wad
  by_cases q : W (8 * (k / 8) + c) < 1000000 ∧ W (8 * c + k % 8) < 1000000
  · rw [if_pos q]
    by_cases q2 : W k < 1000000
    · have := h1.2 q2
      have := h2.2 q.1; have := h3.2 q.2
      exfalso
      rcases hq with x | x | x <;> omega
    · have := h2.2 q.1; have := h3.2 q.2
      rcases hq with x | x | x
      · by_cases q3 : c < 8
        · exfalso; omega
        · exfalso; omega
      · exfalso; omega
      · exfalso; omega
  · rw [if_neg q]
    omega
theorem fI_s {x y z : Nat} (hx : x < 1000000 → x ≤ 51200) (hy : y < 1000000 → y ≤ 51200) (hz : z ≤ 1000000) : min (fI z) (fI x + fI y) = fI (min z (wad x y)) := by
  by_cases q1 : x < 1000000
  · by_cases q2 : y < 1000000
    · have e : wad x y = x + y := if_pos ⟨q1, q2⟩
      have e1 : fI x = x := if_pos q1
      have e2 : fI y = y := if_pos q2
      have := hx q1; have := hy q2
      rw [e, e1, e2]
      unfold fI
      by_cases q3 : z < 1000000
      · rw [if_pos q3, if_pos (by omega)]
      · rw [if_neg q3, if_pos (by omega)]; omega
    · have e : wad x y = 1000000 := if_neg (fun h => q2 h.2)
      have e2 : fI y = 100000000 := if_neg q2
      have e3 : min z 1000000 = z := by omega
      have := fI_lt z
      rw [e, e2, e3]; omega
  · have e : wad x y = 1000000 := if_neg (fun h => q1 h.1)
    have e2 : fI x = 100000000 := if_neg q1
    have e3 : min z 1000000 = z := by omega
    have := fI_lt z
    rw [e, e2, e3]; omega
theorem wst_fI (h : WT N 51200 W) : min (fI (W k)) (fI (W (8 * (k / 8) + c)) + fI (W (8 * c + k % 8))) = fI (wst c W k) :=
  fI_s (fun x => ((h _).2 x).1) (fun x => ((h _).2 x).1) (h k).1
theorem we1_up (hu : up N S e = true) : we1 N S e W = wset W (8 * bo N e + bo N (fe e)) (min (W (8 * bo N e + bo N (fe e))) (cst N (e / 2))) := by
  funext k
  unfold we1 wset
  by_cases c : k = 8 * bo N e + bo N (fe e)
  · rw [if_pos ⟨hu, c⟩, if_pos c, c]
  · rw [if_neg (fun x => c x.2), if_neg c]
theorem R_w1 (q : MS N m B ν ν S) : ∃ ν', zloop (fun s => f12_laysFar_L1 m s.1 s.2) 1000000 (0, ν) = some (nI 64, ν') ∧ EQ N m B S ν ν' (w0 N S) := by
  have nw := q.nw
  have b8 := nw.b8
  obtain ⟨ν', e, h⟩ := lp (Q := fun ν' j => MS N m B ν' ν' S ∧ FrD (m + 28) 1 ν ν' ∧ ∀ k, k < j → gA ν' (m + 28) k = nI (fI (w0 N S k))) (body := fun s => f12_laysFar_L1 m s.1 s.2) nI (fun i (_ : Nat) => i + 1) 64 (S := 0) (μ := ν) (x0 := 0) (by
    intro i ν1 hi q1
    rw [pf_n] at q1
    show ∃ ν', f12_laysFar_L1 m (nI i) ν1 = some (.inl (nI (i + 1), ν')) ∧ (MS N m B ν' ν' S ∧ FrD (m + 28) 1 ν ν' ∧ ∀ k, k < i + 1 → gA ν' (m + 28) k = nI (fI (w0 N S k)))
    obtain ⟨h1, h2, h3⟩ := q1
    have e1 : ((((((iDiv (nI i) 8).bind fun t12 => (iRem (nI i) 8).bind fun t13 => some (ceq t12 t13)).bind fun b10 => if b10 = true then ((iDiv (nI i) 8).bind fun t11 => some (clt t11 (gF ν1 1201 m))) else (some false)).bind fun b7 => if b7 = true then ((iDiv (nI i) 8).bind fun t8 => (f12_isOn m t8 ν1).bind fun t9 => some t9) else (some false)).bind fun b6 => if b6 = true then (some 0) else (some 100000000)) : Option Int32) = some (nI (fI (w0 N S i))) := by
      rw [iDivR8 (by omega), obs, iRemR8 (by omega), obs, obs, ceq_nI (by omega) (by omega), h1.g_b, obs, clt_nI (by omega) (by omega)]
      unfold w0
      by_cases c1 : i / 8 = i % 8
      · rw [decide_eq_true c1, if_pos rfl, obs]
        by_cases c2 : i / 8 < nB N
        · rw [decide_eq_true c2, if_pos rfl, obs, h1.on_ c2, obs, obs]
          by_cases c3 : S 20 (i / 8) = 1
          · rw [if_pos (show ceq (S 20 (i / 8)) 1 = true from ceq_t c3), if_pos ⟨c1, c2, c3⟩]; rfl
          · rw [if_neg (show ¬ ceq (S 20 (i / 8)) 1 = true from fun x => c3 (ceq_of x)), if_neg (fun x => c3 x.2.2)]; rfl
        · rw [decide_eq_false c2, if_neg (by decide), obs, if_neg (by decide), if_neg (fun x => c2 x.2.1)]; rfl
      · rw [decide_eq_false c1, if_neg (by decide), obs, if_neg (by decide), obs, if_neg (by decide), if_neg (fun x => c1 x.1)]; rfl
    unfold f12_laysFar_L1
    rw [cltR64 (by omega), decide_eq_true hi, if_pos rfl, e1, obs, wA_nI (by omega) (by omega), obs, obs, nI_1]
    refine ⟨_, rfl, h1.wD (by omega), h2.wA (by omega) (by omega), fun k hk => ?_⟩
    rw [gA_sA]
    by_cases c : k = i
    · rw [if_pos ⟨rfl, c⟩, c]
    · rw [if_neg (fun x => c x.2)]; exact h3 k (by omega)) (by
    intro ν1 q1
    rfl) (by omega) ⟨q, FrD.rf, fun k hk => absurd hk (by omega)⟩
  rw [pf_n] at h
  exact ⟨ν', e, h⟩
theorem R_w2 (q : EQ N m B S ν0 ν (w0 N S)) : ∃ ν', zloop (fun s => f12_laysFar_L2 m s.1 s.2) 1000000 (0, ν) = some (nI (nL N), ν') ∧ EQ N m B S ν0 ν' (wE N S) := by
  have nw := q.1.nw
  have b8 := nw.b8; have l14 := nw.l14
  have e2 : wE N S = pfold (fun l W => we1 N S (2 * l + 1) (we1 N S (2 * l) W)) (nL N) (w0 N S) := pf_mul (we1 N S) 2 (nL N) (w0 N S)
  rw [e2]
  exact lp (Q := EQ N m B S ν0) (body := fun s => f12_laysFar_L2 m s.1 s.2) nI (fun l W => we1 N S (2 * l + 1) (we1 N S (2 * l) W)) (nL N) (S := w0 N S) (μ := ν) (x0 := 0) (by
    intro i ν1 hi q1
    generalize pfold (fun l W => we1 N S (2 * l + 1) (we1 N S (2 * l) W)) i (w0 N S) = W at *
    show ∃ ν', f12_laysFar_L2 m (nI i) ν1 = some (.inl (nI (i + 1), ν')) ∧ EQ N m B S ν0 ν' (we1 N S (2 * i + 1) (we1 N S (2 * i) W))
    have x1 := nw.bo_b (show 2 * i < 2 * nL N by omega)
    have x2 := nw.bo_b (show 2 * i + 1 < 2 * nL N by omega)
    have x3 := nw.c200 hi
    have f1 : fe (2 * i) = 2 * i + 1 := by unfold fe; rw [if_pos (by omega)]
    have f2 : fe (2 * i + 1) = 2 * i := by unfold fe; rw [if_neg (by omega)]; omega
    have u1 : up N S (2 * i) = upl N S i := by rw [up_l, show 2 * i / 2 = i by omega]
    have u2 : up N S (2 * i + 1) = upl N S i := by rw [up_l, show (2 * i + 1) / 2 = i by omega]
    unfold f12_laysFar_L2
    rw [q1.1.g_l, clt_nI (by omega) (by omega), decide_eq_true hi, if_pos rfl, q1.1.upl_ hi, obs]
    by_cases c : upl N S i = true
    · rw [if_pos c]
      have y1 := fI_lt (W (8 * bo N (2 * i) + bo N (2 * i + 1)))
      have r1 := q1.wW (k := 8 * bo N (2 * i) + bo N (2 * i + 1)) (n := min (W (8 * bo N (2 * i) + bo N (2 * i + 1))) (cst N i)) (by omega) rfl
      rw [← fI_min x3] at r1
      rw [q1.1.ends0 hi, obs, q1.1.ends2 hi, obs, mulQ8, nI_add, rA_nI (by omega) (by omega), obs, q1.1.g_cst hi, obs, q1.2.2 _ (by omega), least_nI (by omega) (by omega), obs, wA_nI (by omega) (by omega), obs, mulQ8, nI_add, rA_nI (by omega) (by omega), obs, r1.1.g_cst hi, obs, r1.2.2 _ (by omega)]
      have y2 := fI_lt (wset W (8 * bo N (2 * i) + bo N (2 * i + 1)) (min (W (8 * bo N (2 * i) + bo N (2 * i + 1))) (cst N i)) (8 * bo N (2 * i + 1) + bo N (2 * i)))
      rw [least_nI (by omega) (by omega), obs, wA_nI (by omega) (by omega), obs, obs, nI_1]
      refine ⟨_, rfl, ?_⟩
      have r2 := r1.wW (k := 8 * bo N (2 * i + 1) + bo N (2 * i)) (n := min (wset W (8 * bo N (2 * i) + bo N (2 * i + 1)) (min (W (8 * bo N (2 * i) + bo N (2 * i + 1))) (cst N i)) (8 * bo N (2 * i + 1) + bo N (2 * i))) (cst N i)) (by omega) rfl
      rw [← fI_min x3] at r2
      rw [we1_up (e := 2 * i + 1) (by rw [u2]; exact c), we1_up (e := 2 * i) (by rw [u1]; exact c), f1, f2, show (2 * i + 1) / 2 = i by omega, show 2 * i / 2 = i by omega]
      exact r2
    · rw [if_neg c, obs, nI_1]
      refine ⟨_, rfl, q1.1, q1.2.1, fun k hk => ?_⟩
      unfold we1
      rw [u1, u2, if_neg (fun x => c x.1), if_neg (fun x => c x.1)]; exact q1.2.2 k hk) (by
    intro ν1 q1
    show f12_laysFar_L2 m (nI (nL N)) ν1 = _
    unfold f12_laysFar_L2
    rw [q1.1.g_l, clt_nI (by omega) (by omega), decide_eq_false (by omega), if_neg (by decide)]) (by omega) q
theorem R_w5 (q : EQ N m B S ν0 ν (wsj c W (8 * a))) (hc : c < nB N) (ha : a < nB N) (hW : WT N 51200 W) : ∃ ν', zloop (fun s => f12_laysFar_L5 m (nI c) (nI a) s.1 s.2) 1000000 (0, ν) = some (nI (nB N), ν') ∧ EQ N m B S ν0 ν' (wsj c W (8 * a + nB N)) := by
  have nw := q.1.nw
  have b8 := nw.b8
  obtain ⟨ν', e, h⟩ := lp (Q := fun ν j => EQ N m B S ν0 ν (wsj c W (8 * a + j))) (body := fun s => f12_laysFar_L5 m (nI c) (nI a) s.1 s.2) nI (fun i (_ : Nat) => i + 1) (nB N) (S := 0) (μ := ν) (x0 := 0) (by
    intro i ν1 hi q1
    rw [pf_n] at q1
    show ∃ ν', f12_laysFar_L5 m (nI c) (nI a) (nI i) ν1 = some (.inl (nI (i + 1), ν')) ∧ EQ N m B S ν0 ν' (wsj c W (8 * a + (i + 1)))
    have d1 : (8 * a + i) / 8 = a := by omega
    have d2 : (8 * a + i) % 8 = i := by omega
    have hW' : ∀ k, W k ≤ 1000000 := fun k => (hW k).1
    have e1 : wsj c W (8 * a + i) (8 * a + c) = W (8 * a + c) := wsj_row hW' (by omega)
    have e2 : wsj c W (8 * a + i) (8 * c + i) = W (8 * c + i) := wsj_col hW' (by omega)
    have e3 : wsj c W (8 * a + i) (8 * a + i) = W (8 * a + i) := by unfold wsj; rw [if_neg (by omega)]
    have v := wst_fI (c := c) (k := 8 * a + i) hW
    rw [d1, d2] at v
    have y1 := fI_lt (W (8 * a + c)); have y2 := fI_lt (W (8 * c + i)); have y3 := fI_lt (W (8 * a + i))
    unfold f12_laysFar_L5
    rw [q1.1.g_b, clt_nI (by omega) (by omega), decide_eq_true hi, if_pos rfl, mulQ8, nI_add, rA_nI (by omega) (by omega), obs, nI_add, rA_nI (by omega) (by omega), obs, mulQ8, nI_add, rA_nI (by omega) (by omega), obs, q1.2.2 _ (by omega), q1.2.2 _ (by omega), q1.2.2 _ (by omega), e1, e2, e3, nI_add, least_nI (by omega) (by omega), v, obs, wA_nI (by omega) (by omega), obs, obs, nI_1]
    refine ⟨_, rfl, ?_⟩
    have := q1.wW (k := 8 * a + i) (n := wst c W (8 * a + i)) (by omega) rfl
    refine ⟨this.1, this.2.1, fun k hk => ?_⟩
    rw [this.2.2 k hk]
    congr 2
    unfold wset wsj
    by_cases c2 : k = 8 * a + i
    · rw [if_pos c2, if_pos (by omega), c2]
    · rw [if_neg c2]
      by_cases c3 : k < 8 * a + i
      · rw [if_pos c3, if_pos (by omega)]
      · rw [if_neg c3, if_neg (by omega)]) (by
    intro ν1 q1
    show f12_laysFar_L5 m (nI c) (nI a) (nI (nB N)) ν1 = _
    unfold f12_laysFar_L5
    rw [q1.1.g_b, clt_nI (by omega) (by omega), decide_eq_false (by omega), if_neg (by decide)]) (by omega) q
  rw [pf_n] at h
  exact ⟨ν', e, h⟩
theorem R_w4 (q : EQ N m B S ν0 ν W) (hc : c < nB N) (hW : WT N 51200 W) : ∃ ν', zloop (fun s => f12_laysFar_L4 m (nI c) s.1 s.2) 1000000 (0, ν) = some (nI (nB N), ν') ∧ EQ N m B S ν0 ν' (wst c W) := by
  have nw := q.1.nw
  have b8 := nw.b8
  obtain ⟨ν', e, h⟩ := lp (Q := fun ν j => EQ N m B S ν0 ν (wsj c W (8 * j))) (body := fun s => f12_laysFar_L4 m (nI c) s.1 s.2) nI (fun i (_ : Nat) => i + 1) (nB N) (S := 0) (μ := ν) (x0 := 0) (by
    intro i ν1 hi q1
    rw [pf_n] at q1
    show ∃ ν', f12_laysFar_L4 m (nI c) (nI i) ν1 = some (.inl (nI (i + 1), ν')) ∧ EQ N m B S ν0 ν' (wsj c W (8 * (i + 1)))
    obtain ⟨ν2, e2, q2⟩ := R_w5 q1 hc hi hW
    unfold f12_laysFar_L4
    rw [q1.1.g_b, clt_nI (by omega) (by omega), decide_eq_true hi, if_pos rfl, e2, ozb2, obs, nI_1]
    refine ⟨_, rfl, q2.1, q2.2.1, fun k hk => ?_⟩
    rw [q2.2.2 k hk]
    congr 2
    unfold wsj
    by_cases c3 : k < 8 * i + nB N
    · rw [if_pos c3, if_pos (by omega)]
    · rw [if_neg c3]
      by_cases c4 : k < 8 * (i + 1)
      · rw [if_pos c4, wst_out hW (by omega)]
      · rw [if_neg c4]) (by
    intro ν1 q1
    show f12_laysFar_L4 m (nI c) (nI (nB N)) ν1 = _
    unfold f12_laysFar_L4
    rw [q1.1.g_b, clt_nI (by omega) (by omega), decide_eq_false (by omega), if_neg (by decide)]) (by omega) (show EQ N m B S ν0 ν (wsj c W (8 * 0)) from ⟨q.1, q.2.1, fun k hk => by unfold wsj; rw [if_neg (by omega)]; exact q.2.2 k hk⟩)
  rw [pf_n] at h
  refine ⟨ν', e, h.1, h.2.1, fun k hk => ?_⟩
  rw [h.2.2 k hk]
  congr 2
  unfold wsj
  by_cases c3 : k < 8 * nB N
  · rw [if_pos c3]
  · rw [if_neg c3, wst_out hW (by omega)]
theorem wW_n (nw : NW N) : ∀ n, nB N + n ≤ 8 → pfold wst (nB N + n) (wE N S) = pfold wst (nB N) (wE N S)
  | 0, _ => rfl
  | n + 1, hn => by
    show wst (nB N + n) (pfold wst (nB N + n) (wE N S)) = _
    rw [wW_n nw n (by omega)]
    funext k
    exact wst_out (wW_lt nw (by omega)) (by omega)
theorem R_far (q : MS N m B ν ν S) : ∃ ν', f12_laysFar m ν = some ν' ∧ EQ N m B S ν ν' (wW N S) := by
  have nw := q.nw
  have b8 := nw.b8
  obtain ⟨ν1, e1, q1⟩ := R_w1 q
  obtain ⟨ν2, e2, q2⟩ := R_w2 q1
  obtain ⟨ν3, e3, q3⟩ := lp (Q := EQ N m B S ν) (body := fun s => f12_laysFar_L3 m s.1 s.2) nI wst (nB N) (S := wE N S) (μ := ν2) (x0 := 0) (by
    intro i ν1 hi q1
    have t := wW_lt (S := S) nw (n := i) (by omega)
    generalize pfold wst i (wE N S) = W at *
    show ∃ ν', f12_laysFar_L3 m (nI i) ν1 = some (.inl (nI (i + 1), ν')) ∧ _
    obtain ⟨ν2, e2, q2⟩ := R_w4 q1 hi t
    unfold f12_laysFar_L3
    rw [q1.1.g_b, clt_nI (by omega) (by omega), decide_eq_true hi, if_pos rfl, e2, ozb2, obs, nI_1]
    exact ⟨_, rfl, q2⟩) (by
    intro ν1 q1
    show f12_laysFar_L3 m (nI (nB N)) ν1 = _
    unfold f12_laysFar_L3
    rw [q1.1.g_b, clt_nI (by omega) (by omega), decide_eq_false (by omega), if_neg (by decide)]) (by omega) q2
  have e4 : wW N S = pfold wst (nB N) (wE N S) := by
    have := wW_n (S := S) nw (8 - nB N) (by omega)
    rw [show nB N + (8 - nB N) = 8 by omega] at this
    exact this
  rw [e4]
  refine ⟨ν3, ?_, q3⟩
  unfold f12_laysFar
  rw [e1, ozb2, e2, ozb2, e3, ozb2]
end zD3
