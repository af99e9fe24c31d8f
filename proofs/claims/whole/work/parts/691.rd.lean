/-! READING: a name, both -/
/-- the i-th letter of the name from q to e, or 0 -/
def nmv (g : Nat → Nat) (q e i : Nat) : Nat := if q + i < e then g (q + i) - 96 else 0
/-- both hold the name from q to e -/
def NM (x m : Nat) (g : Nat → Nat) (q e : Nat) (μ ν : zM) : Prop := (∀ i, i < 6 → gA μ (x + 50) i = nI (nmv g q e i)) ∧ gF μ 506 (x + 49) = nI q ∧ gF ν 1238 m = nI q
theorem el_r2 {A B C D : Type} {f : C → Option D} {h : A → B → Option D} (a : A) (b : B) : Sum.elim f (zq2 h) (Sum.inr (a, b)) = h a b := rfl
theorem el_r1 {A C D : Type} {f : C → Option D} {h : A → Option D} (a : A) : Sum.elim f (zq1 h) (Sum.inr a) = h a := rfl
theorem el_l {A C D : Type} {f : C → Option D} {h : A → Option D} (c : C) : Sum.elim f h (Sum.inl c) = f c := rfl
section zNb
variable {x m n p q e k i j a z r : Nat} {μ ν μ' ν' μ1 ν1 : zM} {g : Nat → Nat} {v v' l : Int32}
theorem nmv_28 (w : WE g n q e) : nmv g q e i < 28 := by
  unfold nmv
  by_cases c : q + i < e
  · rw [if_pos c]
    have := w.2.2.1 (q + i) (by omega) c
    unfold sml at this
    omega
  · rw [if_neg c]; omega
/-- the class holds the name against its own words -/
theorem C_nameL (t : TpC x n g μ) (hp : gF μ 503 (x + 49) = nI q) (w : WE g n q e) : ∀ (d k F : Nat), 13 - k = d → k ≤ 13 → d < F → (∃ r, r < 13 ∧ IsW g q e r ∧ k ≤ r ∧ zloop (fun s => f5_name_L1 (x + 49) s.1 s.2) F (nI k, μ) = some (.inl (false, sF (sF μ 507 (x + 49) 1) 508 (x + 49) (nI q)))) ∨ ((∀ r, k ≤ r → r < 13 → ¬ IsW g q e r) ∧ zloop (fun s => f5_name_L1 (x + 49) s.1 s.2) F (nI k, μ) = some (.inr (nI 13, μ))) := by
  have ow : ∀ k, k < 13 → f5_ownWord (nI k) μ = some k := fun k hk => by
    rcases (show k = 0 ∨ k = 1 ∨ k = 2 ∨ k = 3 ∨ k = 4 ∨ k = 5 ∨ k = 6 ∨ k = 7 ∨ k = 8 ∨ k = 9 ∨ k = 10 ∨ k = 11 ∨ k = 12 by omega) with y | y | y | y | y | y | y | y | y | y | y | y | y <;> subst y <;> rfl
  intro d
  induction d with
  | zero =>
    intro k F h1 h2 h3
    have : k = 13 := by omega
    subst this
    refine Or.inr ⟨fun r r1 r2 => absurd r2 (by omega), zloop_out h3 ?_⟩
    show f5_name_L1 (x + 49) (nI 13) μ = _
    unfold f5_name_L1
    rw [show clt (nI 13) 13 = false from by decide, if_neg (by decide)]
  | succ d ih =>
    intro k F h1 h2 h3
    cases F with
    | zero => omega
    | succ F =>
      have body : ∀ b, f5_isWord (x + 49) k μ = some b → f5_name_L1 (x + 49) (nI k) μ = (if b = true then some (.inr (.inl (false, sF (sF μ 507 (x + 49) 1) 508 (x + 49) (nI q)))) else some (.inl (nI (k + 1), μ))) := fun b hb => by
        unfold f5_name_L1
        rw [show clt (nI k) 13 = decide (k < 13) from clt_nI (b := 13) (by omega) (by omega), decide_eq_true (show k < 13 by omega), if_pos rfl, ow k (by omega), obs, hb, obs, hp, nI_1]
        rfl
      rcases C_isW (k := k) t w hp (by omega) with ⟨a1, a2⟩ | ⟨a1, a2⟩
      · exact Or.inl ⟨k, by omega, a1, Nat.le_refl _, zloop_out (by omega) ((body _ a2).trans (if_pos rfl))⟩
      · have b2 : f5_name_L1 (x + 49) (nI k) μ = some (.inl (nI (k + 1), μ)) := (body _ a2).trans (if_neg (by decide))
        rcases ih (k + 1) F (by omega) (by omega) (by omega) with ⟨r, r1, r2, r3, r4⟩ | ⟨r1, r2⟩
        · exact Or.inl ⟨r, r1, r2, by omega, zl_in2 (body := fun s => f5_name_L1 (x + 49) s.1 s.2) b2 r4⟩
        · refine Or.inr ⟨fun r q1 q2 => ?_, zl_in2 (body := fun s => f5_name_L1 (x + 49) s.1 s.2) b2 r2⟩
          by_cases c : r = k
          · rw [c]; exact a1
          · exact r1 r (by omega) q2
/-- the class's six letters -/
theorem C_letL (w : WE g n q e) (he : e ≤ q + 6) : ∀ (d j F : Nat) (μ : zM), 6 - j = d → j ≤ 6 → d < F → TpC x n g μ → gF μ 503 (x + 49) = nI q → ∃ μ', zloop (fun s => f5_name_L2 (x + 49) (nI (e - q)) s.1 s.2) F (nI j, μ) = some (nI 6, μ') ∧ CTf x μ μ' ∧ (∀ k a, gF μ' k a = gF μ k a) ∧ ∀ i, gA μ' (x + 50) i = if j ≤ i ∧ i < 6 then nI (nmv g q e i) else gA μ (x + 50) i := by
  have w1 := w.1
  have w2 := w.2.1
  intro d
  induction d with
  | zero =>
    intro j F μ h1 h2 h3 t hp
    have : j = 6 := by omega
    subst this
    refine ⟨μ, zloop_out h3 ?_, CTf.rf, fun _ _ => rfl, fun i => by rw [if_neg (by omega)]⟩
    show f5_name_L2 (x + 49) (nI (e - q)) (nI 6) μ = _
    unfold f5_name_L2
    rw [show clt (nI 6) 6 = false from by decide, if_neg (by decide)]
  | succ d ih =>
    intro j F μ h1 h2 h3 t hp
    cases F with
    | zero => omega
    | succ F =>
      have t1 := t.1
      obtain ⟨μ', f1, f2, f3, f4⟩ := ih (j + 1) F (sA μ (x + 50) j (nI (nmv g q e j))) (by omega) (by omega) (by omega) ⟨t.1, t.2.1, fun i hi => by rw [gA_sA, if_neg (by omega)]; exact t.2.2 i hi⟩ hp
      refine ⟨μ', zl_in2 (body := fun s => f5_name_L2 (x + 49) (nI (e - q)) s.1 s.2) ?_ f1, CTf.tr (μ1 := sA μ (x + 50) j (nI (nmv g q e j))) ⟨fun _ _ _ => rfl, fun _ _ => rfl, fun _ _ => rfl, fun a i ha => by rw [gA_sA, if_neg (by omega)], fun _ _ => rfl, fun _ _ => rfl⟩ f2, fun k a => f3 k a, fun i => ?_⟩
      · show f5_name_L2 (x + 49) (nI (e - q)) (nI j) μ = _
        unfold f5_name_L2
        have xv : (if (clt (nI j) (nI (e - q))) = true then ((rA μ (x + 49 - 48) 1600 ((gF μ 503 (x + 49)) + nI j)).bind fun t20 => some ((t20 - 97) + 1)) else (some 0)) = some (nI (nmv g q e j)) := by
          rw [clt_nI (by omega) (by omega)]
          unfold nmv
          by_cases c : q + j < e
          · have sm := w.2.2.1 (q + j) (by omega) c
            unfold sml at sm
            rw [decide_eq_true (show j < e - q by omega), if_pos rfl, hp, nI_add, show x + 49 - 48 = x + 1 by omega, rA_nI (by omega) (by omega), (t.2.2 (q + j) (by omega)).1, obs, show (97 : Int32) = nI 97 from rfl, nI_sub (by omega), nI_1, if_pos c]
            exact congrArg (fun y => some (nI y)) (by omega)
          · rw [decide_eq_false (show ¬ j < e - q by omega), if_neg (by decide), if_neg c]; rfl
        rw [show clt (nI j) 6 = decide (j < 6) from clt_nI (b := 6) (by omega) (by omega), decide_eq_true (show j < 6 by omega), if_pos rfl, xv, obs, show x + 49 + 1 = x + 50 from rfl, wA_nI (by omega) (by omega), obs, obs, nI_1]
      · rw [f4 i, gA_sA]
        by_cases c : i = j
        · subst c
          rw [if_neg (show ¬ (i + 1 ≤ i ∧ i < 6) by omega), if_pos ⟨rfl, rfl⟩, if_pos ⟨Nat.le_refl _, by omega⟩]
        · by_cases c2 : j ≤ i ∧ i < 6
          · rw [if_pos (show j + 1 ≤ i ∧ i < 6 by omega), if_pos c2]
          · rw [if_neg (show ¬ (j + 1 ≤ i ∧ i < 6) by omega), if_neg (show ¬ (x + 50 = x + 50 ∧ i = j) from fun y => c y.2), if_neg c2]
theorem name2 (h : RS x m n g p μ ν) : (∃ q e μ' ν', p < e ∧ WE g n q e ∧ e ≤ q + 6 ∧ f5_name (x + 49) μ = some (true, μ') ∧ f12_name m ν = some ν' ∧ RS x m n g e μ' ν' ∧ NM x m g q e μ' ν' ∧ CTf x μ μ' ∧ RTf m ν ν') ∨ (∃ μ' ν', f5_name (x + 49) μ = some (false, μ') ∧ f12_name m ν = some ν' ∧ BAD x m μ' ν' ∧ CTf x μ μ' ∧ RTf m ν ν') := by
  obtain ⟨tc, tr, ol, pn, e3, e7, hl, e9, kp⟩ := h
  obtain ⟨q, s⟩ := SK.ex g n (n - p) p rfl pn
  obtain ⟨e, w⟩ := WE.ex g n (n - q) q rfl s.2.1
  have t1 := tc.1
  have s1 := s.1
  have s2 := s.2.1
  have w1 := w.1
  have w2 := w.2.1
  have tq : TpC x n g (sF μ 503 (x + 49) (nI q)) := tc.w (by omega)
  have ht := (hl.sk s).tch (n := n) s2 t1
  have g3 : gF (sF μ 503 (x + 49) (nI q)) 503 (x + 49) = nI q := sF_eq
  have g4 : gF (sF μ 503 (x + 49) (nI q)) 504 (x + 49) = gF μ 504 (x + 49) := sF_ne (by omega)
  have fq : CTf x μ (sF μ 503 (x + 49) (nI q)) := CTf.w (by omega)
  have hz : ceq (nI (e - q)) 0 = decide (e - q = 0) := ceq_nI (b := 0) (by omega) (by omega)
  have hC : f5_name (x + 49) μ = if (ceq (nI (e - q)) 0 || ceq (nI q) (gF μ 504 (x + 49))) = true then some (false, sF (sF (sF μ 503 (x + 49) (nI q)) 507 (x + 49) 1) 508 (x + 49) (nI q)) else ((zloop (fun s => f5_name_L1 (x + 49) s.1 s.2) 1000000 (0, (sF μ 503 (x + 49) (nI q)))).bind fun r8 => Sum.elim (fun v => some v) (zq2 fun v_k_8 μ9 => if (clt 6 (nI (e - q))) = true then (zb2 (f5_fails (x + 49) 1 ((gF μ9 503 (x + 49)) + 6) μ9) fun t25 μ26 => some (t25, μ26)) else (zb2 (zloop (fun s => f5_name_L2 (x + 49) (nI (e - q)) s.1 s.2) 1000000 (0, μ9)) fun v_k_17 μ18 => (wF μ18 506 (x + 49) (gF μ18 503 (x + 49))).bind fun μ23 => (f5_pass (x + 49) (nI (e - q)) μ23).bind fun μ24 => some (true, μ24))) r8) := by
    unfold f5_name
    rw [C_sk s tc e3, obs, C_wend tq w g3, obs, g3, g4, nI_sub w1, obs]
    rfl
  rw [hC]
  have kq : KP x m (sF μ 503 (x + 49) (nI q)) ν := kp.kc (by omega) (by omega)
  generalize sF μ 503 (x + 49) (nI q) = μ2 at tq g3 g4 fq kq ⊢
  have fb : CTf x μ (sF (sF μ2 507 (x + 49) 1) 508 (x + 49) (nI q)) := (fq.tr (CTf.w (by omega))).tr (CTf.w (by omega))
  unfold f12_name
  rcases R_word tr e7 e9 s w with ⟨a1, a2, a3⟩ | ⟨a1, a3⟩
  · have fr : RTf m ν (sF (sF (sF ν 1237 m (nI q)) 1238 m (nI q)) 1237 m (nI e)) := ((RTf.w (by omega)).tr (RTf.w (by omega))).tr (RTf.w (by omega))
    have g8 : gF (sF (sF (sF ν 1237 m (nI q)) 1238 m (nI q)) 1237 m (nI e)) 1238 m = nI q := by rw [sF_ne (by omega), sF_eq]
    have g7 : gF (sF (sF (sF ν 1237 m (nI q)) 1238 m (nI q)) 1237 m (nI e)) 1237 m = nI e := sF_eq
    have g9 : gF (sF (sF (sF ν 1237 m (nI q)) 1238 m (nI q)) 1237 m (nI e)) 1239 m = 0 := by rw [sF_ne (by omega), sF_ne (by omega), sF_ne (by omega)]; exact e9
    have g10 : gF (sF (sF (sF ν 1237 m (nI q)) 1238 m (nI q)) 1237 m (nI e)) 1240 m = gF ν 1240 m := by rw [sF_ne (by omega), sF_ne (by omega), sF_ne (by omega)]
    rw [a3, obs]
    generalize sF (sF (sF ν 1237 m (nI q)) 1238 m (nI q)) 1237 m (nI e) = ν2 at fr g8 g7 g9 g10 ⊢
    have nt : ceq (nI q) (gF μ 504 (x + 49)) = false := by
      cases c : ceq (nI q) (gF μ 504 (x + 49)) with
      | true => exact absurd (ht.mp c) a1
      | false => rfl
    unfold f12_goes
    rw [nt, hz, decide_eq_false (show ¬ e - q = 0 by omega), Bool.or_self, if_neg (by decide), g9, show ceq (0 : Int32) 0 = true from rfl, obs, obs, if_pos rfl, g7, g8, nI_sub w1]
    rw [show clt (6 : Int32) (nI (e - q)) = decide (6 < e - q) from clt_nI (a := 6) (by omega) (by omega)]
    rcases R_own (tr.fr fr) (ol.fr fr) w g8 g7 with ⟨r, r1, r2, r3⟩ | ⟨r1, r2⟩
    · rcases C_nameL tq g3 w 13 0 1000000 (by omega) (by omega) (by omega) with ⟨r', q1, q2, q3, q4⟩ | ⟨q1, q4⟩
      · rw [r3, obs, show ceq (nI r) (-1) = false from by
          have h1 : ¬ nI r = -1 := fun y => m1_ne (p := r) (by omega) y.symm
          exact decide_eq_false h1, if_neg (by decide), R_fails0 g9, show ((0 : Int32), μ2) = (nI 0, μ2) from rfl, q4, obs, el_l]
        refine Or.inr ⟨_, _, rfl, rfl, ⟨1, by omega, by omega, by rw [sF_ne (by omega), sF_eq]; rfl, by rw [sF_ne (by omega), sF_eq]; rfl, by rw [sF_eq, sF_eq]⟩, fb, (fr.tr (RTf.w (by omega))).tr (RTf.w (by omega))⟩
      · exact absurd r2 (q1 r (by omega) r1)
    · rcases C_nameL tq g3 w 13 0 1000000 (by omega) (by omega) (by omega) with ⟨r', q1, q2, q3, q4⟩ | ⟨q1, q4⟩
      · exact absurd q2 (r1 r' q1)
      · rw [r2, obs, show ceq (-1 : Int32) (-1) = true from rfl, if_pos rfl, show ((0 : Int32), μ2) = (nI 0, μ2) from rfl, q4, obs]
        rw [el_r2]
        by_cases c6 : 6 < e - q
        · rw [decide_eq_true c6, if_pos rfl, if_pos rfl, R_fails0 g9, g3, show (6 : Int32) = nI 6 from rfl, nI_add]
          exact Or.inr ⟨_, _, rfl, rfl, ⟨1, by omega, by omega, by rw [sF_ne (by omega), sF_eq]; rfl, by rw [sF_ne (by omega), sF_eq]; rfl, by rw [sF_eq, sF_eq]⟩, (fq.tr (CTf.w (by omega))).tr (CTf.w (by omega)), (fr.tr (RTf.w (by omega))).tr (RTf.w (by omega))⟩
        · obtain ⟨μ3, f1, f2, f3, f4⟩ := C_letL (x := x) w (by omega) 6 0 1000000 μ2 (by omega) (by omega) (by omega) tq g3
          rw [decide_eq_false c6, if_neg (by decide), if_neg (by decide), show ((0 : Int32), μ2) = (nI 0, μ2) from rfl, f1, ozb2, f3, g3]
          have t3 : TpC x n g μ3 := tq.fr f2
          have fz : CTf x μ (sF (sF (sF μ3 506 (x + 49) (nI q)) 503 (x + 49) (nI e)) 504 (x + 49) (nI e)) := (((fq.tr f2).tr (CTf.w (by omega))).tr (CTf.w (by omega))).tr (CTf.w (by omega))
          refine Or.inl ⟨q, e, sF (sF (sF μ3 506 (x + 49) (nI q)) 503 (x + 49) (nI e)) 504 (x + 49) (nI e), ν2, by omega, w, by omega, ?_, rfl, ⟨((t3.w (by omega)).w (by omega)).w (by omega), tr.fr fr, ol.fr fr, w2, by rw [sF_ne (by omega), sF_eq], g7, ?_, g9, ((((show KP x m μ3 ν from ⟨(f3 _ _).trans kq.1, (f3 _ _).trans kq.2.1, kq.2.2⟩).kc (by omega) (by omega)).kc (by omega) (by omega)).kc (by omega) (by omega)).kr g10⟩, ⟨fun i hi => ?_, by rw [sF_ne (by omega), sF_ne (by omega), sF_eq], g8⟩, fz, fr⟩
          · unfold f5_pass
            simp only [wF, obs]
            rw [sF_ne (k' := 503) (k := 506) (by omega), f3, g3, nI_add, show q + (e - q) = e by omega, sF_eq]
          · rw [sF_eq]
            exact LT.tok (by omega) (Or.inl (w.2.2.1 (e - 1) (by omega) (by omega)))
          · show gA μ3 (x + 50) i = _
            rw [f4 i, if_pos ⟨by omega, hi⟩]
  · have cb : (ceq (nI (e - q)) 0 || ceq (nI q) (gF μ 504 (x + 49))) = true := by
      rw [hz]
      by_cases c : touch g n q
      · rw [ht.mpr c, Bool.or_true]
      · rw [decide_eq_true (show e - q = 0 by
          by_cases d : q < e
          · exact absurd ⟨c, d⟩ a1
          · omega)]; rfl
    rw [cb, if_pos rfl, a3, obs]
    refine Or.inr ⟨_, sF (sF (sF (sF ν 1237 m (nI q)) 1238 m (nI q)) 1239 m 1) 1240 m (nI q), rfl, ?_, ⟨1, by omega, by omega, by rw [sF_ne (by omega), sF_eq]; rfl, ?_, ?_⟩, fb, (((RTf.w (by omega)).tr (RTf.w (by omega))).tr (RTf.w (by omega))).tr (RTf.w (by omega))⟩
    · unfold f12_goes
      rw [sF_ne (by omega), sF_eq]
      rfl
    · rw [sF_ne (by omega), sF_eq]; rfl
    · rw [sF_eq, sF_eq]
end zNb
