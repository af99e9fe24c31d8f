/-! READING: a number, both -/
section zN9
variable {x m n p q e k i j a z lo hi : Nat} {μ ν μ' ν' μ1 ν1 : zM} {g : Nat → Nat} {v v' l : Int32}
theorem R_failsX {c w : Int32} (h9 : ceq (gF ν 1239 m) 0 = false) : f12_fails m c w ν = some ν := by
  unfold f12_fails
  rw [h9]; rfl
theorem R_fails0 {c w : Int32} (h9 : gF ν 1239 m = 0) : f12_fails m c w ν = some (sF (sF ν 1239 m c) 1240 m w) := by
  unfold f12_fails
  rw [h9]; rfl
/-- the head of a number -/
theorem R_numH (t : TpR m n g ν) (hp : gF ν 1237 m = nI p) (h9 : gF ν 1239 m = 0) (s : SK g n p q) (hd : DG g n q z) : (¬ (¬ touch g n q ∧ 0 < z) ∧ f12_number m (nI lo) (nI hi) ν = some (0, sF (sF (sF (sF ν 1237 m (nI q)) 1238 m (nI q)) 1239 m 1) 1240 m (nI q))) ∨ (¬ touch g n q ∧ 0 < z ∧ f12_number m (nI lo) (nI hi) ν = zb2 (zloop (fun s => f12_number_L1 m s.1 s.2) 1000000 (0, sF (sF ν 1237 m (nI q)) 1238 m (nI q))) fun v_v_9 μ10 => ((f12_isIn v_v_9 (nI lo) (nI hi) μ10).bind fun t23 => if t23 = true then (some μ10) else ((f12_fails m 2 (gF μ10 1238 m) μ10).bind fun μ24 => some μ24)).bind fun μ20 => ((f12_goes m μ20).bind fun t22 => if t22 = true then (some v_v_9) else (some 0)).bind fun x21 => some (x21, μ20)) := by
  have t1 := t.1
  have s2 := s.2.1
  have t' : TpR m n g (sF (sF ν 1237 m (nI q)) 1238 m (nI q)) := (t.w (by omega)).w (by omega)
  have e7 : gF (sF (sF ν 1237 m (nI q)) 1238 m (nI q)) 1237 m = nI q := by rw [sF_ne (by omega), sF_eq]
  have e9 : gF (sF (sF ν 1237 m (nI q)) 1238 m (nI q)) 1239 m = 0 := by rw [sF_ne (by omega), sF_ne (by omega)]; exact h9
  have dz : (q < n ∧ dgt (g q)) ↔ 0 < z := by
    constructor
    · intro y
      by_cases c : 0 < z
      · exact c
      · have : z = 0 := by omega
        subst this
        exact absurd y (hd.2.2 (by omega))
    · intro y; exact hd.2.1 0 y
  obtain ⟨a, b, b1, b2, b3⟩ := R_before t' (p := q) (by omega)
  unfold f12_number
  generalize hK : (fun (v_v_9 : Int32) (μ10 : zM) => ((f12_isIn v_v_9 (nI lo) (nI hi) μ10).bind fun t23 => if t23 = true then (some μ10) else ((f12_fails m 2 (gF μ10 1238 m) μ10).bind fun μ24 => some μ24)).bind fun μ20 => ((f12_goes m μ20).bind fun t22 => if t22 = true then (some v_v_9) else (some 0)).bind fun x21 => some (x21, μ20)) = KK
  unfold f12_goes
  rw [h9, show ceq (0 : Int32) 0 = true from rfl, obs, obs, if_pos rfl, R_here s t hp, ozb2, sF_eq]
  simp only [wF, obs]
  rw [e7, R_digit t' (by omega), b1, b2]
  simp only [obs]
  by_cases c : 0 < z
  · rw [decide_eq_true (dz.mpr c)]
    by_cases tc : touch g n q
    · refine Or.inl ⟨fun z => z.1 tc, ?_⟩
      have ab := b3.mpr tc
      have : (if a = true then (some true) else (some b) : Option Bool) = some true := by
        cases a with
        | true => rfl
        | false => rw [Bool.false_or] at ab; rw [ab]; rfl
      rw [Bool.not_true, if_neg (by decide), obs, this, obs, if_pos rfl, R_fails0 e9]
      rfl
    · refine Or.inr ⟨tc, c, ?_⟩
      have ab : ¬ (a || b) = true := fun z => tc (b3.mp z)
      have a0 : a = false := by cases a with
        | true => exact absurd rfl ab
        | false => rfl
      have b0 : b = false := by cases b with
        | true => rw [a0] at ab; exact absurd rfl ab
        | false => rfl
      rw [a0, b0, Bool.not_true, if_neg (by decide), obs, if_neg (by decide), obs, if_neg (by decide)]
  · rw [decide_eq_false (fun z => c (dz.mp z))]
    refine Or.inl ⟨fun z => c z.2, ?_⟩
    rw [Bool.not_false, if_pos rfl, obs, if_pos rfl, obs, if_pos rfl, R_fails0 e9]
    rfl
theorem R_isIn {v lo hi : Nat} (h1 : v < 1000) (h2 : lo < 1000) (h3 : hi < 1000) : f12_isIn (nI v) (nI lo) (nI hi) μ = some (decide (lo ≤ v ∧ v ≤ hi)) := by
  unfold f12_isIn
  rw [obs, clt_nI (by omega) (by omega), clt_nI (by omega) (by omega)]
  by_cases c : lo ≤ v ∧ v ≤ hi
  · rw [decide_eq_true c, decide_eq_false (by omega), decide_eq_false (by omega)]; rfl
  · rw [decide_eq_false c]
    by_cases d : v < lo
    · rw [decide_eq_true d]; rfl
    · rw [decide_eq_false d, decide_eq_true (show hi < v by omega)]; rfl
/-- both at a number -/
theorem number2 (h : RS x m n g p μ ν) (hh : hi < 1000) (ll : lo < 1000) : (∃ e v μ' ν', p < e ∧ lo ≤ v ∧ v ≤ hi ∧ f5_number (x + 49) (nI lo) (nI hi) μ = some (true, μ') ∧ f12_number m (nI lo) (nI hi) ν = some (nI v, ν') ∧ gF μ' 505 (x + 49) = nI v ∧ RS x m n g e μ' ν' ∧ CTf x μ μ' ∧ RTf m ν ν') ∨ (∃ μ' ν', f5_number (x + 49) (nI lo) (nI hi) μ = some (false, μ') ∧ f12_number m (nI lo) (nI hi) ν = some (0, ν') ∧ BAD x m μ' ν' ∧ CTf x μ μ' ∧ RTf m ν ν') := by
  obtain ⟨tc, tr, ol, pn, e3, e7, hl, e9, kp⟩ := h
  obtain ⟨q, s⟩ := SK.ex g n (n - p) p rfl pn
  obtain ⟨z, hd⟩ := DG.ex g n q
  have t1 := tc.1
  have s1 := s.1
  have s2 := s.2.1
  have zl := hd.le s2
  have z3 := hd.1
  have dv := dvl_b (fun j hj => (hd.2.1 j hj).2) z (Nat.le_refl _)
  have dv3 : dvl g q z < 1000 := Nat.lt_of_lt_of_le dv (Nat.pow_le_pow_right (by omega) z3)
  rcases R_numH (lo := lo) (hi := hi) tr e7 e9 s hd with ⟨a1, a2⟩ | ⟨a1, a2, a3⟩
  · rcases C_num (lo := lo) (hi := hi) tc e3 hl s hd hh ll with ⟨c1, c2⟩ | ⟨c1, c2, c3⟩
    · exact Or.inr ⟨_, _, c2, a2, ⟨1, by omega, by omega, by rw [sF_ne (by omega), sF_eq]; rfl, by rw [sF_ne (by omega), sF_eq]; rfl, by rw [sF_eq, sF_eq]⟩, ((CTf.w (by omega)).tr (CTf.w (by omega))).tr (CTf.w (by omega)), (((RTf.w (by omega)).tr (RTf.w (by omega))).tr (RTf.w (by omega))).tr (RTf.w (by omega))⟩
    · exact absurd ⟨c1, c2⟩ a1
  · rcases C_num (lo := lo) (hi := hi) tc e3 hl s hd hh ll with ⟨c1, c2⟩ | ⟨c1, c2, c3⟩
    · exact absurd ⟨a1, a2⟩ c1
    · have fr : RTf m ν (sF (sF ν 1237 m (nI q)) 1238 m (nI q)) := (RTf.w (by omega)).tr (RTf.w (by omega))
      have g7 : gF (sF (sF ν 1237 m (nI q)) 1238 m (nI q)) 1237 m = nI q := by rw [sF_ne (by omega), sF_eq]
      have g8 : gF (sF (sF ν 1237 m (nI q)) 1238 m (nI q)) 1238 m = nI q := sF_eq
      have g9 : gF (sF (sF ν 1237 m (nI q)) 1238 m (nI q)) 1239 m = 0 := by rw [sF_ne (by omega), sF_ne (by omega)]; exact e9
      have g10 : gF (sF (sF ν 1237 m (nI q)) 1238 m (nI q)) 1240 m = gF ν 1240 m := by rw [sF_ne (by omega), sF_ne (by omega)]
      rw [c3, a3]
      generalize sF (sF ν 1237 m (nI q)) 1238 m (nI q) = ν1 at fr g7 g8 g9 g10 ⊢
      have t' := tr.fr fr
      have tz : TpR m n g (sF ν1 1237 m (nI (q + z))) := t'.w (by omega)
      have L := fun r => R_numL (m := m) hd z 0 1000000 ν1 r (by omega) (by omega) (by omega) t' g7 g8 g9
      by_cases c4 : q + z < n ∧ dgt (g (q + z))
      · have z33 : z = 3 := by
          by_cases y : z < 3
          · exact absurd c4 (hd.2.2 y)
          · omega
        subst z33
        obtain ⟨r, r1⟩ := R_num4 (v := nI (dvl g q 3)) tz sF_eq (by rw [sF_ne (by omega)]; exact g8) (by rw [sF_ne (by omega)]; exact g9) c4.1 c4.2
        have y9 : gF (sF (sF (sF (sF ν1 1237 m (nI (q + 3))) 1239 m 1) 1240 m (nI (q + 3))) 1237 m (nI (q + 4))) 1239 m = 1 := by rw [sF_ne (by omega), sF_ne (by omega), sF_eq]
        have y0 : gF (sF (sF (sF (sF ν1 1237 m (nI (q + 3))) 1239 m 1) 1240 m (nI (q + 3))) 1237 m (nI (q + 4))) 1240 m = nI (q + 3) := by rw [sF_ne (by omega), sF_eq]
        have fy : RTf m ν (sF (sF (sF (sF ν1 1237 m (nI (q + 3))) 1239 m 1) 1240 m (nI (q + 3))) 1237 m (nI (q + 4))) := (((fr.tr (RTf.w (by omega))).tr (RTf.w (by omega))).tr (RTf.w (by omega))).tr (RTf.w (by omega))
        have hx : ceq (gF (sF (sF (sF (sF ν1 1237 m (nI (q + 3))) 1239 m 1) 1240 m (nI (q + 3))) 1237 m (nI (q + 4))) 1239 m) 0 = false := by rw [y9]; rfl
        have l2 := L _ (zl_in2 (f := 999996) r1 (zloop_out (by omega) (R_numX (v := r) (((tz.w (by omega)).w (by omega)).w (by omega)) sF_eq (by omega) hx)))
        rw [show ((0 : Int32), ν1) = (nI (dvl g q 0), ν1) from rfl, l2, ozb2, if_pos c4]
        generalize sF (sF (sF (sF ν1 1237 m (nI (q + 3))) 1239 m 1) 1240 m (nI (q + 3))) 1237 m (nI (q + 4)) = ν2 at y9 y0 fy hx ⊢
        refine Or.inr ⟨_, ν2, rfl, ?_, ⟨1, by omega, by omega, by rw [sF_ne (by omega), sF_eq]; rfl, y9, by rw [sF_eq, y0]⟩, (((CTf.w (by omega)).tr (CTf.w (by omega))).tr (CTf.w (by omega))).tr (CTf.w (by omega)), fy⟩
        unfold f12_goes
        rw [R_failsX hx]
        simp only [obs]
        unfold f12_isIn
        rw [obs, obs, ite_self, obs, hx]
        rfl
      · have l2 := L _ (zloop_out (by omega) (R_numE (v := nI (dvl g q z)) tz sF_eq (by omega) c4))
        have w7 : gF (sF ν1 1237 m (nI (q + z))) 1237 m = nI (q + z) := sF_eq
        have w8 : gF (sF ν1 1237 m (nI (q + z))) 1238 m = nI q := by rw [sF_ne (by omega)]; exact g8
        have w9 : gF (sF ν1 1237 m (nI (q + z))) 1239 m = 0 := by rw [sF_ne (by omega)]; exact g9
        have fw : RTf m ν (sF ν1 1237 m (nI (q + z))) := fr.tr (RTf.w (by omega))
        have w10 : gF (sF ν1 1237 m (nI (q + z))) 1240 m = gF ν 1240 m := by rw [sF_ne (by omega)]; exact g10
        rw [show ((0 : Int32), ν1) = (nI (dvl g q 0), ν1) from rfl, l2, ozb2, if_neg c4]
        generalize sF ν1 1237 m (nI (q + z)) = ν2 at tz w7 w8 w9 w10 fw ⊢
        rw [R_isIn dv3 ll hh, obs]
        by_cases cr : lo ≤ dvl g q z ∧ dvl g q z ≤ hi
        · rw [if_pos cr, decide_eq_true cr]
          refine Or.inl ⟨q + z, dvl g q z, _, ν2, by omega, cr.1, cr.2, rfl, ?_, by rw [sF_ne (by omega), sF_ne (by omega), sF_eq], ⟨((tc.w (by omega)).w (by omega)).w (by omega), tz, ol.fr fw, zl, by rw [sF_ne (by omega), sF_eq], w7, ?_, w9, (((kp.kc (by omega) (by omega)).kc (by omega) (by omega)).kc (by omega) (by omega)).kr w10⟩, ((CTf.w (by omega)).tr (CTf.w (by omega))).tr (CTf.w (by omega)), fw⟩
          · unfold f12_goes
            rw [if_pos rfl, obs, w9]; rfl
          · rw [sF_eq]
            refine LT.tok (by omega) (Or.inr ?_)
            have := (hd.2.1 (z - 1) (by omega)).2
            rw [show q + (z - 1) = q + z - 1 by omega] at this
            exact this
        · rw [if_neg cr, decide_eq_false cr]
          refine Or.inr ⟨_, sF (sF ν2 1239 m 2) 1240 m (nI q), rfl, ?_, ⟨2, by omega, by omega, by rw [sF_ne (by omega), sF_eq]; rfl, by rw [sF_ne (by omega), sF_eq]; rfl, by rw [sF_eq, sF_eq]⟩, (((CTf.w (by omega)).tr (CTf.w (by omega))).tr (CTf.w (by omega))).tr (CTf.w (by omega)), (fw.tr (RTf.w (by omega))).tr (RTf.w (by omega))⟩
          unfold f12_goes
          rw [w8, if_neg (by decide), R_fails0 w9, obs, obs, obs, sF_ne (by omega), sF_eq]
          rfl
end zN9
