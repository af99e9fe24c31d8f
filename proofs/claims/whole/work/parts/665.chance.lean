/-! CHANCE, both -/
theorem zl_two {f g : Int32 × zM → Option ((Int32 × zM) ⊕ (Int32 × zM))} {n : Nat} (P : Nat → zM → zM → Prop) (hs : ∀ i a b, i < n → P i a b → ∃ a' b', f (nI i, a) = some (.inl (nI (i + 1), a')) ∧ g (nI i, b) = some (.inl (nI (i + 1), b')) ∧ P (i + 1) a' b') (he : ∀ a b, P n a b → f (nI n, a) = some (.inr (nI n, a)) ∧ g (nI n, b) = some (.inr (nI n, b))) : ∀ (d i F : Nat) (a b : zM), n - i = d → i ≤ n → d < F → P i a b → ∃ a' b', zloop f F (nI i, a) = some (nI n, a') ∧ zloop g F (nI i, b) = some (nI n, b') ∧ P n a' b' := by
  intro d
  induction d with
  | zero =>
    intro i F a b h1 h2 h3 h4
    have e : i = n := by omega
    subst e
    obtain ⟨h5, h6⟩ := he a b h4
    cases F with
    | zero => omega
    | succ F => exact ⟨a, b, by simp [zloop, h5], by simp [zloop, h6], h4⟩
  | succ d ih =>
    intro i F a b h1 h2 h3 h4
    obtain ⟨a1, b1, h5, h6, h7⟩ := hs i a b (by omega) h4
    cases F with
    | zero => omega
    | succ F =>
      obtain ⟨a2, b2, h8, h9, h10⟩ := ih (i + 1) F a1 b1 (by omega) (by omega) (by omega) h7
      exact ⟨a2, b2, by simp [zloop, h5, h8], by simp [zloop, h6, h9], h10⟩
section zL5
variable {N : zN} {x m w s B st top n k i f c p j b l t e P : Nat} {μ0 μ μ' μ1 ν0 ν ν' ν1 M : zM} {S S' S1 X : zS} {v : Int32}
theorem JJ.act1 (h : JJ N S st w x m top μ ν) (cs : CS N (x + 51) w μ μ' S') (ms : MS N m 0 ν ν' S') (iv : INV N st S') (t0 : T0 N S') (k : K46 S S') : JJ N S' st w x m top μ' ν' := h.act cs ms iv (k.2.trans h.1.s0) h.1.st9 t0 (k.1.trans h.1.bg)
theorem nn_nI (h : ¬ v < 0) : ∃ k, k < 2 ^ 31 ∧ v = nI k := by
  refine ⟨v.toNatClampNeg, ?_, ?_⟩
  · have := v.toInt_lt
    have h2 : 0 ≤ v.toInt := by
      have h3 : ¬ v.toInt < (0 : Int32).toInt := fun z => h (Int32.lt_iff_toInt_lt.mpr z)
      have h4 : (0 : Int32).toInt = 0 := rfl
      omega
    rw [← Int32.toNat_toInt]
    omega
  · apply Int32.toInt_inj.mp
    have := v.toInt_lt
    have h2 : 0 ≤ v.toInt := by
      have h3 : ¬ v.toInt < (0 : Int32).toInt := fun z => h (Int32.lt_iff_toInt_lt.mpr z)
      have h4 : (0 : Int32).toInt = 0 := rfl
      omega
    rw [nI_toInt (by rw [← Int32.toNat_toInt]; omega), ← Int32.toNat_toInt]
    omega
theorem nI_nn (h : k < 2 ^ 31) : ¬ nI k < 0 := fun z => by
  have := Int32.lt_iff_toInt_lt.mp z
  rw [nI_toInt h, show (0 : Int32).toInt = 0 from rfl] at this
  omega
theorem draw2 (h : JJ N S st w x m top μ ν) (hb : gF ν 1244 m = nI 0) (hl : 0 < l) (hl2 : l < 2 ^ 31) : ∃ t μ' ν', t < l ∧ f11_draw x (nI l) μ = some (nI t, μ') ∧ f12_draw m (nI l) ν = some (nI t, ν') ∧ JJ N S st w x m top μ' ν' ∧ gF ν' 1244 m = nI 0 := by
  obtain ⟨e1, e2⟩ := h.2.2.1.2.2.2.1
  obtain ⟨k, hk, e3⟩ := nn_nI e2
  have hd : dnx k < 2 ^ 31 := Nat.mod_lt _ (by omega)
  exact ⟨dnx k / 64 % l, _, _, Nat.mod_lt _ hl, C_draw e3 hk hl hl2, R_draw (e1.symm.trans e3) hk hl hl2, h.dr (nI_nn hd), by rw [gF_sF, if_neg (by omega)]; exact hb⟩
theorem chance1 (h : JJ N S st w x m top μ ν) (hb : gF ν 1244 m = nI 0) (hl : 0 < nL N) (hs : st + 16 ≤ 9999) (hk : k < n) (hn : n ≤ 20) : ∃ S' st' μ' ν', st' ≤ st + 16 ∧ JJ N S' st' w x m top μ' ν' ∧ gF ν' 1244 m = nI 0 ∧ f11_chance_L1 x (nI n) (nI k) μ = some (.inl (nI (k + 1), μ')) ∧ f12_chance_L1 m (nI n) (nI k) ν = some (.inl (nI (k + 1), ν')) := by
  have nw := h.1.nw
  have l14 := nw.l14
  obtain ⟨t, μ1, ν1, ht, e1, e2, h1, hb1⟩ := draw2 (l := nL N) h hb hl (by omega)
  have q1 := h1.ms hb1
  have key : ∃ S2 μ2 ν2, JJ N S2 st w x m top μ2 ν2 ∧ gF ν2 1244 m = nI 0 ∧ (if ceq (S 40 t) 1 = true then f8_cutLink (x + 51) (nI t) μ1 else f8_mendLink (x + 51) (nI t) μ1) = some μ2 ∧ (if ceq (S 40 t) 1 = true then f12_isCut m (nI t) ν1 else f12_isMended m (nI t) ν1) = some ν2 := by
    cases ceq (S 40 t) 1 with
    | true =>
      obtain ⟨μ2, e5, c5⟩ := C_cut h1.1.cs ht
      obtain ⟨⟨ν2, e6, q6⟩, iv6, t6⟩ := R_cut q1 h1.1.inv h1.1.t0 ht
      exact ⟨_, μ2, ν2, h1.act1 c5 q6 iv6 t6 (K46.cut nw), q6.bs, e5, e6⟩
    | false =>
      obtain ⟨μ2, e5, c5⟩ := C_mend h1.1.cs ht
      obtain ⟨⟨ν2, e6, q6⟩, iv6, t6⟩ := R_mend q1 h1.1.inv h1.1.t0 ht
      exact ⟨_, μ2, ν2, h1.act1 c5 q6 iv6 t6 (K46.mend nw), q6.bs, e5, e6⟩
  obtain ⟨S2, μ2, ν2, h2, hb2, e3, e4⟩ := key
  obtain ⟨y, μ3, ν3, hy, e5, e6, h3, hb3⟩ := draw2 (l := 16) h2 hb2 (by omega) (by omega)
  obtain ⟨μ4, e7, c7⟩ := C_steps h3.1.cs (n := y + 1) (by omega) h3.1.s0 (by omega)
  obtain ⟨ν4, e8, q8⟩ := run_L (n := y + 1) (h3.ms hb3) h3.1.inv h3.1.s0 (by omega) (by omega)
  have h4 := h3.steps (n := y + 1) c7 q8 (by omega)
  refine ⟨_, st + (y + 1), μ4, ν4, by omega, h4, q8.bs, ?_, ?_⟩
  · unfold f11_chance_L1
    rw [clt_nI (by omega) (by omega), decide_eq_true hk, if_pos rfl, h.1.wr, obs, h.1.cs.w_l, e1, ozb2, rZ_nI (by omega) (by omega), obs, show x + 55 = x + 51 + 4 by omega, h1.1.cs.r_whole (by omega)]
    cases c : ceq (S 40 t) 1 with
    | true =>
      rw [c, if_pos rfl] at e3
      rw [if_pos rfl, e3, obs, show (16 : Int32) = nI 16 from rfl, e5, ozb2, nI_1, e7, obs, nI_1]
    | false =>
      rw [c, if_neg (by decide)] at e3
      rw [if_neg (by decide), e3, obs, show (16 : Int32) = nI 16 from rfl, e5, ozb2, nI_1, e7, obs, nI_1]
  · have lk : (fun s : Int32 × zM => f12_chance_L2 m (nI (y + 1)) s.1 s.2) = (fun s => f12_run_L1 m (nI (y + 1)) s.1 s.2) := rfl
    unfold f12_chance_L1
    rw [clt_nI (by omega) (by omega), decide_eq_true hk, if_pos rfl, h.1.m0.2.2.2.1.2.1, e2, ozb2, addQ964, q1.its (by omega), obs, (q1.1.2.2.2.2.1 t ht).1]
    cases c : ceq (S 40 t) 1 with
    | true =>
      rw [c, if_pos rfl] at e4
      rw [if_pos rfl, e4]
      simp only [obs]
      rw [show (16 : Int32) = nI 16 from rfl, e6, ozb2, nI_1, lk, e8, ozb2, nI_1]
    | false =>
      rw [c, if_neg (by decide)] at e4
      rw [if_neg (by decide), e4]
      simp only [obs]
      rw [show (16 : Int32) = nI 16 from rfl, e6, ozb2, nI_1, lk, e8, ozb2, nI_1]
theorem chance2 (h : JJ N S st w x m top μ ν) (hb : gF ν 1244 m = nI 0) (hl : 0 < nL N) (hs : st + 16 * n ≤ 9999) (hn : n ≤ 20) : ∃ S' st' μ' ν', JJ N S' st' w x m top μ' ν' ∧ gF ν' 1244 m = nI 0 ∧ zloop (fun s => f11_chance_L1 x (nI n) s.1 s.2) 1000000 (0, μ) = some (nI n, μ') ∧ zloop (fun s => f12_chance_L1 m (nI n) s.1 s.2) 1000000 (0, ν) = some (nI n, ν') := by
  obtain ⟨a, b, e1, e2, S', st', p1, p2, p3⟩ := zl_two (f := fun s => f11_chance_L1 x (nI n) s.1 s.2) (g := fun s => f12_chance_L1 m (nI n) s.1 s.2) (n := n) (fun i a b => ∃ S' st', st' ≤ st + 16 * i ∧ JJ N S' st' w x m top a b ∧ gF b 1244 m = nI 0) (by
    rintro i a b hi ⟨S1, st1, p1, p2, p3⟩
    obtain ⟨S', st', μ', ν', r1, r2, r3, r4, r5⟩ := chance1 (k := i) (n := n) p2 p3 hl (by omega) hi hn
    exact ⟨μ', ν', r4, r5, S', st', by omega, r2, r3⟩) (by
    intro a b _
    constructor
    · show f11_chance_L1 x (nI n) (nI n) a = _
      unfold f11_chance_L1
      rw [clt_nI (by omega) (by omega), decide_eq_false (by omega), if_neg (by decide)]
    · show f12_chance_L1 m (nI n) (nI n) b = _
      unfold f12_chance_L1
      rw [clt_nI (by omega) (by omega), decide_eq_false (by omega), if_neg (by decide)]) n 0 1000000 μ ν (by omega) (by omega) (by omega) ⟨S, st, by omega, h, hb⟩
  exact ⟨S', st', a, b, p2, p3, e1, e2⟩
theorem q_chance (h : JR x m top μ ν) (a : Int32) : ∃ r b μ' ν', f11_chance x top a μ = some (r, b, μ') ∧ f12_chance m a ν = some (r, ν') ∧ JR x m (topN b top) μ' ν' := by
  obtain ⟨N, S, st, w, h⟩ := h
  have nw := h.1.nw
  have l14 := nw.l14
  have s9 := h.1.st9
  have h1 := h.b1
  have q := h.b0
  unfold f11_chance f12_chance
  rw [show wF ν 1244 m 0 = some (sF ν 1244 m 0) from rfl, obs]
  generalize sF ν 1244 m 0 = ν1 at h1 q ⊢
  obtain ⟨μr, νr, u1, u2, u3⟩ := rf_int (k := 2) h1 (by omega)
  have ref : ∃ r b μ' ν', (some (-1, false, μr) : Option (Int32 × Bool × zM)) = some (r, b, μ') ∧ (some (-1, νr) : Option (Int32 × zM)) = some (r, ν') ∧ JR x m (topN b top) μ' ν' := ⟨_, false, _, _, rfl, rfl, u3⟩
  have i0 : f12_its m 0 ν1 = some (S 44 0) := (q.its (k := 0) (by omega)).trans (congrArg some q.1.2.2.2.2.2.2.2.2.1.1)
  rw [show (2 : Int32) = nI 2 from rfl, u1, u2, show f12_isIn a 1 20 ν1 = some (!(clt a 1) && !(clt 20 a)) from rfl, i0, h.1.s0, h.1.wr, q.g_l]
  simp only [obs, ozb2]
  rw [h.1.cs.w_l, h.1.cs.c_step, h.1.s0]
  cases c1 : clt a 1 with
  | true =>
    rw [if_pos rfl]
    cases gB ν1 1246 m <;> exact ref
  | false =>
    cases c2 : clt 20 a with
    | true =>
      rw [if_neg (by decide), if_pos rfl]
      cases gB ν1 1246 m <;> exact ref
    | false =>
      rw [if_neg (by decide), if_neg (by decide), show ceq (nI (nL N)) 0 = decide (nL N = 0) from ceq_nI (by omega) (b := 0) (by omega)]
      by_cases cl : nL N = 0
      · rw [decide_eq_true cl, if_pos rfl]
        cases ct : gB ν1 1246 m <;> exact ref
      · have ct : gB ν1 1246 m = true := by
          cases ct : gB ν1 1246 m with
          | true => rfl
          | false => exact absurd (h1.2.1.2 (h1.2.1.1.trans ct)).2.1 cl
        rw [ct, decide_eq_false cl]
        simp only [Bool.not_true, Bool.not_false, Bool.and_self, Bool.false_eq_true, ↓reduceIte, obs]
        have c0 : clt a 0 = false := by
          cases z : clt a 0 with
          | false => rfl
          | true =>
            have a1 : a < 0 := of_decide_eq_true z
            have a2 : ¬ a < 1 := of_decide_eq_false c1
            exact absurd (Int32.lt_trans a1 (by decide)) a2
        have c3 : clt a (nI 21) = true := by
          rw [← clt_le (i := a) (n := 20) (by omega)]
          show (!clt 20 a) = true
          rw [c2]; rfl
        obtain ⟨n, hn, rfl⟩ := rI_of c0 c3 (by omega)
        rw [show (16 : Int32) = nI 16 from rfl, pk_mul, nI_add, show (9999 : Int32) = nI 9999 from rfl, clt_nI (by omega) (by omega)]
        by_cases c4 : 9999 < st + 16 * n
        · rw [decide_eq_true c4]
          exact ref
        · rw [decide_eq_false c4]
          simp only [Bool.false_eq_true, ↓reduceIte]
          obtain ⟨b, μ2, ν2, e3, e4, hJ, hb⟩ := kp_both h1
          obtain ⟨S', st', μ3, ν3, hK, hb3, e5, e6⟩ := chance2 (n := n) hJ hb (by omega) (by omega) (by omega)
          have q3 := hK.ms hb3
          rw [e3, ozb2, e5, ozb2, C_cntWh hK.1.cs, obs, e4, obs, e6, ozb2, q3.g_l, show (964 : Int32) = nI 964 from rfl, show f12_countOf m (nI 964) (nI (nL N)) 1 ν3 = f12_countOf m (nI 964) (nI (nL N)) (nI 1) ν3 from rfl, R_cntOf (g := fun l => S' 40 l) q3 (by omega) (by omega) (fun l hl => by rw [Nat.one_mul]; exact q3.1.2.2.2.2.1 l hl), obs]
          exact ⟨_, b, μ3, ν3, rfl, rfl, _, _, _, _, hK⟩
end zL5
