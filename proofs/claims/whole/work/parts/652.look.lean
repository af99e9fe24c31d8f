/-! QUESTIONS that lay tables: due, role, rests, ring, joined, leads, centre -/
section zJ7
variable {N : zN} {x m w s B st top n k i f c p j b l t : Nat} {μ0 μ μ' ν0 ν ν' : zM} {S S' : zS}
theorem out5 (hw : w = x + 23 ∨ w = x + 36) : Out (x + 3) 8 (x + 51) w := ⟨by omega, by omega⟩
theorem out13 (hw : w = x + 23 ∨ w = x + 36) : Out (x + 11) 3 (x + 51) w := ⟨by omega, by omega⟩
theorem JJ.scr {o n : Nat} (h : JJ N S st w x m top μ ν) (hf : FrD o n μ μ') (h1 : x + 3 ≤ o) (h2 : o + n ≤ x + 14) (ft : FrT m ν ν') : JR x m top μ' ν' := ⟨_, _, _, _, h.look (FrA.fd hf h1 h2) (h.2.2.2.1.mv (fun a h3 h4 => hf a (by omega))) ft⟩
theorem ft_fd {o n : Nat} (hf : FrD o n (sF ν 1244 m 0) ν') (h1 : m + 28 ≤ o) (h2 : o + n ≤ m + 31) : FrT m ν ν' := ft_b0.tr (FrT.fd hf h1 h2)
theorem q_due (h : JR x m top μ ν) (a c : Int32) : ∃ r μ' ν', f11_due x a c μ = some (r, μ') ∧ f12_due m a c ν = some (r, ν') ∧ JR x m top μ' ν' := by
  obtain ⟨N, S, st, w, h⟩ := h
  have cs := h.1.cs
  have q := h.b0
  have nw := h.1.nw
  have hr := h.ask
  have b8 := nw.b8
  have wr := h.1.wr
  obtain ⟨μ1, T, f1, f2, f3⟩ := C_find cs (out5 h.ww)
  obtain ⟨ν2, g1, g2⟩ := R_far q
  have hr2 := h.scr f2.1.2.1 (by omega) (by omega) (ft_fd g2.2.1 (by omega) (by omega))
  have hr3 := h.scr f2.1.2.1 (by omega) (by omega) (ft_b0 (ν := ν))
  have isin : f12_isIn c 0 2 (sF ν 1244 m 0) = some (!(clt c 0) && clt c (nI 3)) := isIn0 (n := 3) (by omega)
  unfold f11_due f12_due
  rw [show wF ν 1244 m 0 = some (sF ν 1244 m 0) from rfl, obs, isin]
  generalize sF ν 1244 m 0 = ν1 at q g1 g2 hr hr3 ⊢
  simp only [wr, obs]
  rw [C_isB cs, R_isB q]
  simp only [obs]
  rcases rngC (nB N) (by omega) a with ⟨b, hb, rfl⟩ | ⟨_, e⟩
  · rw [rngT (by omega) hb, rI_nI (by omega) (by omega), q.on_ hb]
    simp only [Bool.not_true, Bool.false_eq_true, ↓reduceIte, obs]
    rw [show x + 64 + 3 * b = x + 51 + 13 + 3 * b by omega, cs.r_on (by omega)]
    cases o20 : ceq (S 20 b) 1 with
    | false => exact ⟨-1, μ, ν1, rfl, rfl, hr⟩
    | true =>
      simp only [Bool.not_true, Bool.false_eq_true, ↓reduceIte, obs]
      have h20 := ceq_of o20
      obtain ⟨t2, t3⟩ := f3.1 b hb h20
      have t4 := f3.2.1 b hb h20
      rw [f1, obs, rA_nI (by omega) (by omega), obs, rA_nI (by omega) (by omega), obs, rA_nI (by omega) (by omega), obs, show x + 5 = x + 3 + 2 by omega, show x + 6 = x + 3 + 3 by omega, show x + 7 = x + 3 + 4 by omega, f2.2 2 b (by omega) (by omega), f2.2 3 b (by omega) (by omega), f2.2 4 b (by omega) (by omega), t2, t3, t4]
      have wle : ∀ k, wW N S k ≤ 1000000 := fun k => wW_b nw
      have rt : f12_rootOf m (nI b) ν2 = some (nI (rtR N S b)) := R_root g2 hb wle
      have rtb := (rtR_mn nw hb h20).1
      rcases rngC 3 (by omega) c with ⟨c', hc, rfl⟩ | ⟨hc, e⟩
      · rw [rngT (by omega) hc]
        simp only [Bool.not_true, Bool.false_eq_true, ↓reduceIte, obs]
        rw [g1, obs, rt, obs]
        have : c' = 0 ∨ c' = 1 ∨ c' = 2 := by omega
        rcases this with rfl | rfl | rfl
        · exact ⟨idS S (rtR N S b), μ1, ν2, by rw [if_pos (by decide)], by rw [if_pos (by decide)]; unfold f12_idOf; rw [g2.1.b1 rtb, obs, obs]; rfl, hr2⟩
        · refine ⟨nI (wW N S (8 * b + rtR N S b)), μ1, ν2, by rw [if_neg (by decide), if_pos (by decide)], ?_, hr2⟩
          rw [if_neg (by decide), if_pos (by decide), mulQ8, nI_add, rA_nI (by omega) (by omega), obs, g2.2.2 _ (by omega)]
          unfold fI
          rw [if_pos (rtR_nr nw hb h20)]
        · refine ⟨oI (rpD N S b), μ1, ν2, by rw [if_neg (by decide), if_neg (by decide), if_pos (by decide)], ?_, hr2⟩
          rw [if_neg (by decide), if_neg (by decide), R_rport g2 hb h20, obs]
          cases o5 : rpD N S b with
          | none => rfl
          | some p =>
            have hp := (rpD_lt o5).1
            have p6 := nw.p6 hb
            rw [show oM b (some p) = nI (6 * b + p) from rfl, if_neg (by rw [oI_none (by omega)]; decide), show (6 : Int32) = nI 6 from rfl, iRem_nI (by omega) (by omega) (by omega), obs, obs, show (6 * b + p) % 6 = p by omega]
            rfl
      · rw [e]
        have z : ∀ j, j < 3 → ¬ ceq c (nI j) = true := fun j hj => by rw [hc j hj]; decide
        exact ⟨-1, μ1, ν1, by rw [if_neg (show ¬ ceq c 0 = true from z 0 (by omega)), if_neg (show ¬ ceq c 1 = true from z 1 (by omega)), if_neg (show ¬ ceq c 2 = true from z 2 (by omega))], rfl, hr3⟩
  · rw [e]
    exact ⟨-1, μ, ν1, rfl, rfl, hr⟩
theorem q_role (h : JR x m top μ ν) (a b : Int32) : ∃ r μ' ν', f11_role x a b μ = some (r, μ') ∧ f12_role m a b ν = some (r, ν') ∧ JR x m top μ' ν' := by
  obtain ⟨N, S, st, w, h⟩ := h
  have cs := h.1.cs
  have q := h.b0
  have nw := h.1.nw
  have hr := h.ask
  have wr := h.1.wr
  obtain ⟨μ1, T, f1, f2, f3⟩ := C_find cs (out5 h.ww)
  obtain ⟨ν2, g1, g2⟩ := R_far q
  have hr2 := h.scr f2.1.2.1 (by omega) (by omega) (ft_fd g2.2.1 (by omega) (by omega))
  have wr2 : gR μ1 1111 x = some w := by rw [(f2.1.2.1 x (by omega)).2.2.1]; exact wr
  unfold f11_role f12_role
  rw [show wF ν 1244 m 0 = some (sF ν 1244 m 0) from rfl, obs]
  generalize sF ν 1244 m 0 = ν1 at q g1 g2 hr ⊢
  simp only [wr, obs]
  rcases isP_in cs q a b with ⟨b', p', hb, hp, rfl, rfl, e1, e2⟩ | ⟨e1, e2⟩
  · rw [e1, e2]
    simp only [obs, ↓reduceIte]
    obtain ⟨he, ebo, epo⟩ := nw.2.2.2.2.2.1 _ _ hb hp
    have epl : pl N (eo N b' p') = 6 * b' + p' := by unfold pl; rw [ebo, epo]
    have e28 := nw.eo_28 hb hp
    rw [f1, g1]
    simp only [obs]
    rw [wr2, obs, f2.1.1.w_eo hb hp, obs, rA_nI (by omega) (by omega), obs, show x + 8 = x + 3 + 5 by omega, f2.2 5 _ (by omega) (by omega), f3.2.2 _ he]
    have pl_ : f12_placeOf (nI b') (nI p') ν2 = some (nI (pl N (eo N b' p'))) := by unfold f12_placeOf; rw [mulQ6, nI_add, epl]
    rw [pl_, obs, R_role g2 he, obs]
    exact ⟨_, _, _, rfl, rfl, hr2⟩
  · rw [e1, e2]
    exact ⟨-1, μ, ν1, rfl, rfl, hr⟩
theorem q_rests (h : JR x m top μ ν) : ∃ r μ' ν', f11_rests x μ = some (r, μ') ∧ f12_rests m ν = some (r, ν') ∧ JR x m top μ' ν' := by
  obtain ⟨N, S, st, w, h⟩ := h
  have cs := h.1.cs
  have q := h.b0
  obtain ⟨μ1, T, f1, f2, f3⟩ := C_find cs (out5 h.ww)
  obtain ⟨r, f4, f5⟩ := C_met f2 f3
  obtain ⟨r', ν2, g1, g3, g2⟩ := R_rest q (inv_32 h.1.inv)
  have hr2 := h.scr f2.1.2.1 (by omega) (by omega) (ft_fd g2.2.1 (by omega) (by omega))
  have e : r' = r := by
    cases r with
    | true => exact g3.mpr (f5.mp rfl)
    | false =>
      cases r' with
      | false => rfl
      | true => exact absurd (f5.mpr (g3.mp rfl)) (by decide)
  subst e
  unfold f11_rests f12_rests
  rw [show wF ν 1244 m 0 = some (sF ν 1244 m 0) from rfl, obs, f1, obs, f4, obs, g1, ozb2]
  exact ⟨_, _, _, rfl, rfl, hr2⟩
theorem q_ring (h : JR x m top μ ν) (c : Int32) : ∃ r μ' ν', f11_ring x c μ = some (r, μ') ∧ f12_ring m c ν = some (r, ν') ∧ JR x m top μ' ν' := by
  obtain ⟨N, S, st, w, h⟩ := h
  have cs := h.1.cs
  have q := h.b0
  have hr := h.ask
  obtain ⟨μ1, f1, _, f2⟩ := C_spare cs (out13 h.ww)
  obtain ⟨μ2, f3, _, f4⟩ := C_first cs (out13 h.ww)
  obtain ⟨ν2, g1, g2⟩ := R_parts (v := -1) q
  obtain ⟨ν3, g3, _, g4⟩ := R_ring q
  have h1 := h.scr f2 (by omega) (by omega) (ft_fd g2.1.2 (by omega) (by omega))
  have h2 := h.scr f4 (by omega) (by omega) (ft_fd g4 (by omega) (by omega))
  unfold f11_ring f12_ring
  rw [show wF ν 1244 m 0 = some (sF ν 1244 m 0) from rfl, obs]
  cases ceq c 0 with
  | true =>
    simp only [↓reduceIte]
    rw [f1, g1]
    simp only [ozb2]
    exact ⟨_, _, _, rfl, rfl, h1⟩
  | false =>
    simp only [Bool.false_eq_true, ↓reduceIte]
    cases ceq c 1 with
    | true =>
      simp only [↓reduceIte]
      rw [f3, g3]
      simp only [ozb2]
      exact ⟨_, _, _, rfl, rfl, h2⟩
    | false =>
      simp only [Bool.false_eq_true, ↓reduceIte, ozb2]
      exact ⟨_, _, _, rfl, rfl, hr⟩
theorem C_isOn (cs : CS N (x + 51) w μ μ S) (wr : gR μ 1111 x = some w) (a : Int32) : (∃ b, b < nB N ∧ a = nI b ∧ f11_isOn x a μ = some (ceq (S 20 b) 1)) ∨ ((!(clt a 0) && clt a (nI (nB N))) = false ∧ f11_isOn x a μ = some false) := by
  have b8 := cs.nw.b8
  unfold f11_isOn
  simp only [wr, obs]
  rw [C_isB cs]
  simp only [obs]
  rcases rngC (nB N) (by omega) a with ⟨b, hb, rfl⟩ | ⟨_, e⟩
  · refine Or.inl ⟨b, hb, rfl, ?_⟩
    rw [rngT (by omega) hb, if_pos rfl, rI_nI (by omega) (by omega), obs, obs, show x + 64 + 3 * b = x + 51 + 13 + 3 * b by omega, cs.r_on (by omega)]
  · exact Or.inr ⟨e, by rw [e]; rfl⟩
theorem q_joined (h : JR x m top μ ν) (a c : Int32) : ∃ r μ' ν', f11_joined x a c μ = some (r, μ') ∧ f12_joined m a c ν = some (r, ν') ∧ JR x m top μ' ν' := by
  obtain ⟨N, S, st, w, h⟩ := h
  have cs := h.1.cs
  have q := h.b0
  have nw := h.1.nw
  have hr := h.ask
  have b8 := nw.b8
  have ft := fun (ν2 : zM) (hf : FrD (m + 30) 1 (sF ν 1244 m 0) ν2) => ft_fd hf (by omega) (by omega)
  unfold f11_joined f12_joined
  rw [show wF ν 1244 m 0 = some (sF ν 1244 m 0) from rfl, obs]
  generalize sF ν 1244 m 0 = ν1 at q hr ft ⊢
  rw [R_isB q, R_isB q]
  simp only [obs]
  rcases C_isOn cs h.1.wr a with ⟨b, hb, rfl, e1⟩ | ⟨e0, e1⟩
  · rw [e1, rngT (by omega) hb, q.on_ hb]
    simp only [obs, Bool.not_true, Bool.false_eq_true, ↓reduceIte]
    rcases C_isOn cs h.1.wr c with ⟨d, hd, rfl, e2⟩ | ⟨e0, e2⟩
    · rw [e2, rngT (by omega) hd, q.on_ hd]
      simp only [obs, Bool.not_true, Bool.false_eq_true, ↓reduceIte]
      cases o1 : ceq (S 20 b) 1 with
      | false => exact ⟨-1, μ, ν1, rfl, rfl, hr⟩
      | true =>
        simp only [Bool.not_true, Bool.false_eq_true, ↓reduceIte, obs]
        cases o2 : ceq (S 20 d) 1 with
        | false => exact ⟨-1, μ, ν1, rfl, rfl, hr⟩
        | true =>
          simp only [Bool.not_true, Bool.false_eq_true, ↓reduceIte]
          obtain ⟨μ2, f1, _, f2⟩ := C_btw cs (out13 h.ww) hb hd
          obtain ⟨ν2, g1, _, g2⟩ := R_btw q hb hd
          rw [f1, g1, ozb2]
          exact ⟨_, _, _, rfl, rfl, h.scr f2 (by omega) (by omega) (ft ν2 g2)⟩
    · rw [e2, e0]
      simp only [obs, Bool.not_false, ↓reduceIte]
      cases o1 : ceq (S 20 b) 1 <;> exact ⟨-1, μ, ν1, rfl, rfl, hr⟩
  · rw [e1, e0]
    exact ⟨-1, μ, ν1, rfl, rfl, hr⟩
theorem q_leads (h : JR x m top μ ν) (a c : Int32) : ∃ r ν', f11_leads x a c μ = some r ∧ f12_leads m a c ν = some (r, ν') ∧ JR x m top μ ν' := by
  obtain ⟨N, S, st, w, h⟩ := h
  have cs := h.1.cs
  have q := h.b0
  have nw := h.1.nw
  have hr := h.ask
  have b8 := nw.b8; have h8 := nw.h8
  have wr := h.1.wr
  unfold f11_leads f12_leads
  rw [show wF ν 1244 m 0 = some (sF ν 1244 m 0) from rfl, obs]
  generalize sF ν 1244 m 0 = ν1 at q hr ⊢
  simp only [wr, obs]
  rw [C_isB cs, C_isH cs, R_isB q, R_isH q]
  simp only [obs]
  rcases rngC (nB N) (by omega) a with ⟨b, hb, rfl⟩ | ⟨_, e⟩
  · rcases rngC (nH N) (by omega) c with ⟨g, hg, rfl⟩ | ⟨_, e⟩
    · rw [rngT (by omega) hb, rngT (by omega) hg]
      simp only [Bool.not_true, Bool.false_eq_true, ↓reduceIte, obs]
      obtain ⟨r1, f1, f2⟩ := C_leadto cs hg 9 b 0 1000000 rfl (by omega) hb
      obtain ⟨r2, g1, g2⟩ := R_leadto q hg 9 b 0 1000000 rfl (by omega) hb
      unfold f8_linksTo
      rw [show zloop (fun s => f8_linksTo_L1 (x + 51) (nI g) μ s.1 s.2) 1000000 (nI b, 0) = some r1 from f1, obs, f2, obs, show zloop (fun s => f12_leads_L1 m (nI g) ν1 s.1 s.2) 1000000 (nI b, 0) = some r2 from g1, obs, g2]
      exact ⟨_, _, rfl, rfl, hr⟩
    · rw [rngT (by omega) hb, e]
      exact ⟨-1, ν1, rfl, rfl, hr⟩
  · rw [e]
    exact ⟨-1, ν1, rfl, rfl, hr⟩
end zJ7
