/-! SMALL QUESTIONS, both -/
section zJ6
variable {N : zN} {x m w s B st top n k i f c p j : Nat} {μ0 μ μ' ν0 ν ν' : zM} {S S' : zS}
theorem b01 {v : Int32} (h : v = 0 ∨ v = 1) : (if ceq v 1 = true then (some 1 : Option Int32) else some 0) = some v := by
  rcases h with rfl | rfl
  · rw [if_neg (by decide)]
  · rw [if_pos (by decide)]
theorem b01' {b : Bool} {v : Int32} (h : bI b = v) : (if b = true then (some 1 : Option Int32) else some 0) = some v := by
  subst h
  cases b <;> rfl

theorem q_link (h : JR x m top μ ν) (a c : Int32) : ∃ r ν', f11_link x a c μ = some r ∧ f12_link m a c ν = some (r, ν') ∧ JR x m top μ ν' := by
  obtain ⟨N, S, st, w, h⟩ := h
  have cs := h.1.cs
  have q := h.b0
  have nw := h.1.nw
  have hr := h.ask
  have l14 := nw.l14; have b8 := nw.b8; have h8 := nw.h8
  have wr := h.1.wr
  have inv := h.1.inv
  unfold f11_link f12_link
  rw [show wF ν 1244 m 0 = some (sF ν 1244 m 0) from rfl]
  generalize sF ν 1244 m 0 = ν1 at q hr ⊢
  simp only [wr, obs]
  rw [C_isL cs, R_isL q]
  simp only [obs]
  rcases rngC (nL N) (by omega) a with ⟨l, hl, rfl⟩ | ⟨_, e⟩
  · rw [rngT (by omega) hl, if_pos rfl, if_pos rfl]
    have isin : f12_isIn c 0 3 ν1 = some (!(clt c 0) && clt c (nI 4)) := isIn0 (n := 4) (by omega)
    rw [isin]
    simp only [obs]
    rcases rngC 8 (by omega) c with ⟨c', hc, rfl⟩ | ⟨hc, e⟩
    · have : c' = 0 ∨ c' = 1 ∨ c' = 2 ∨ c' = 3 ∨ c' = 4 ∨ c' = 5 ∨ c' = 6 ∨ c' = 7 := by omega
      rcases this with rfl | rfl | rfl | rfl | rfl | rfl | rfl | rfl
      · exact ⟨nI (bo N (2 * l)), ν1, by rw [if_pos (by decide), mulQ2, cs.w_bo (by omega), obs], by rw [if_neg (by decide), if_neg (by decide), if_neg (by decide), if_neg (by decide), rngT (by omega) (by omega), if_pos rfl, mulQ4, nI_add, show 4 * l + 0 = 2 * (2 * l) by omega, q.g_bo (by omega), obs, obs], hr⟩
      · exact ⟨nI (po N (2 * l)), ν1, by rw [if_neg (by decide), if_pos (by decide), mulQ2, cs.w_po (by omega), obs], by rw [if_neg (by decide), if_neg (by decide), if_neg (by decide), if_neg (by decide), rngT (by omega) (by omega), if_pos rfl, mulQ4, nI_add, show 4 * l + 1 = 2 * (2 * l) + 1 by omega, q.g_po (by omega), obs, obs], hr⟩
      · exact ⟨nI (bo N (2 * l + 1)), ν1, by rw [if_neg (by decide), if_neg (by decide), if_pos (by decide), mulQ2, nI_1, cs.w_bo (by omega), obs], by rw [if_neg (by decide), if_neg (by decide), if_neg (by decide), if_neg (by decide), rngT (by omega) (by omega), if_pos rfl, mulQ4, nI_add, show 4 * l + 2 = 2 * (2 * l + 1) by omega, q.g_bo (by omega), obs, obs], hr⟩
      · exact ⟨nI (po N (2 * l + 1)), ν1, by rw [if_neg (by decide), if_neg (by decide), if_neg (by decide), if_pos (by decide), mulQ2, nI_1, cs.w_po (by omega), obs], by rw [if_neg (by decide), if_neg (by decide), if_neg (by decide), if_neg (by decide), rngT (by omega) (by omega), if_pos rfl, mulQ4, nI_add, show 4 * l + 3 = 2 * (2 * l + 1) + 1 by omega, q.g_po (by omega), obs, obs], hr⟩
      · exact ⟨nI (cst N l), ν1, by rw [if_neg (by decide), if_neg (by decide), if_neg (by decide), if_neg (by decide), if_pos (by decide), cs.w_cst hl, obs], by rw [if_pos (by decide), q.g_cst hl, obs], hr⟩
      · exact ⟨nI (tks N l), ν1, by rw [if_neg (by decide), if_neg (by decide), if_neg (by decide), if_neg (by decide), if_neg (by decide), if_pos (by decide), cs.w_tks hl, obs], by rw [if_neg (by decide), if_pos (by decide), q.g_tks hl, obs], hr⟩
      · exact ⟨S 40 l, ν1, by rw [if_neg (by decide), if_neg (by decide), if_neg (by decide), if_neg (by decide), if_neg (by decide), if_neg (by decide), if_pos (by decide), rZ_nI (by omega) (by omega), obs, b01' (cs.c_whole l (by omega)), obs], by rw [if_neg (by decide), if_neg (by decide), if_pos (by decide), addQ964, q.its (by omega), obs, (q.1.2.2.2.2.1 l hl).1], hr⟩
      · refine ⟨if opn S l = true then 1 else 0, ν1, ?_, ?_, hr⟩
        · rw [if_neg (by decide), if_neg (by decide), if_neg (by decide), if_neg (by decide), if_neg (by decide), if_neg (by decide), if_neg (by decide), if_pos (by decide), C_opn cs hl, obs]; cases opn S l <;> rfl
        · rw [if_neg (by decide), if_neg (by decide), if_neg (by decide), if_pos (by decide), R_opn q hl, obs]; cases opn S l <;> rfl
    · have z : ∀ j, j < 8 → ¬ ceq c (nI j) = true := fun j hj => by rw [hc j hj]; decide
      have z4 : (!(clt c 0) && clt c (nI 4)) = false := by
        rcases rngC 4 (by omega) c with ⟨c', hc', rfl⟩ | ⟨_, e4⟩
        · exact absurd (hc c' (by omega)) (by rw [ceq_nI (by omega) (by omega), decide_eq_true rfl]; decide)
        · exact e4
      refine ⟨-1, ν1, ?_, ?_, hr⟩
      · rw [if_neg (show ¬ ceq c 0 = true from z 0 (by omega)), if_neg (show ¬ ceq c 1 = true from z 1 (by omega)), if_neg (show ¬ ceq c 2 = true from z 2 (by omega)), if_neg (show ¬ ceq c 3 = true from z 3 (by omega)), if_neg (show ¬ ceq c 4 = true from z 4 (by omega)), if_neg (show ¬ ceq c 5 = true from z 5 (by omega)), if_neg (show ¬ ceq c 6 = true from z 6 (by omega)), if_neg (show ¬ ceq c 7 = true from z 7 (by omega))]
      · rw [if_neg (show ¬ ceq c 4 = true from z 4 (by omega)), if_neg (show ¬ ceq c 5 = true from z 5 (by omega)), if_neg (show ¬ ceq c 6 = true from z 6 (by omega)), if_neg (show ¬ ceq c 7 = true from z 7 (by omega)), z4, if_neg (by decide)]; rfl
  · rw [e, if_neg (by decide), if_neg (by decide)]
    exact ⟨-1, ν1, rfl, rfl, hr⟩
theorem q_bridge (h : JR x m top μ ν) (a c : Int32) : ∃ r ν', f11_bridge x a c μ = some r ∧ f12_bridge m a c ν = some (r, ν') ∧ JR x m top μ ν' := by
  obtain ⟨N, S, st, w, h⟩ := h
  have cs := h.1.cs
  have q := h.b0
  have nw := h.1.nw
  have hr := h.ask
  have l14 := nw.l14; have b8 := nw.b8; have h8 := nw.h8
  have wr := h.1.wr
  have inv := h.1.inv
  unfold f11_bridge f12_bridge
  rw [show wF ν 1244 m 0 = some (sF ν 1244 m 0) from rfl]
  generalize sF ν 1244 m 0 = ν1 at q hr ⊢
  simp only [wr, obs]
  rw [C_isB cs, R_isB q]
  simp only [obs]
  rcases rngC (nB N) (by omega) a with ⟨b, hb, rfl⟩ | ⟨_, e⟩
  · rw [rngT (by omega) hb, if_pos rfl, if_pos rfl, rI_nI (by omega) (by omega), obs]
    have aq : ∀ b, x + 64 + 3 * b = x + 51 + 13 + 3 * b := fun b => by omega
    rw [aq]
    have isin : f12_isIn c 4 8 ν1 = some (!(clt c 4) && !(clt 8 c)) := rfl
    rw [isin, q.on_ hb]
    simp only [obs]
    have on := cs.r_on (i := b) (by omega)
    rcases rngC 9 (by omega) c with ⟨c', hc, rfl⟩ | ⟨hc, e⟩
    · have : c' = 0 ∨ c' = 1 ∨ c' = 2 ∨ c' = 3 ∨ c' = 4 ∨ c' = 5 ∨ c' = 6 ∨ c' = 7 ∨ c' = 8 := by omega
      rcases this with rfl | rfl | rfl | rfl | rfl | rfl | rfl | rfl | rfl
      · exact ⟨idS S b, ν1, by rw [if_pos (by decide), C_id cs (by omega), obs], by rw [if_pos (by decide)]; unfold f12_idOf; rw [q.b1 hb, obs, obs]; rfl, hr⟩
      · exact ⟨nI (nP N b), ν1, by rw [if_neg (by decide), if_pos (by decide), cs.w_p hb, obs], by rw [if_neg (by decide), if_pos (by decide), q.g_p hb, obs], hr⟩
      · exact ⟨S 22 b, ν1, by rw [if_neg (by decide), if_neg (by decide), if_pos (by decide), b01' (cs.c_old b (by omega)), obs], by rw [if_neg (by decide), if_neg (by decide), if_pos (by decide), q.b2 hb, obs], hr⟩
      · exact ⟨S 20 b, ν1, by rw [if_neg (by decide), if_neg (by decide), if_neg (by decide), if_pos (by decide), b01' (cs.c_on b (by omega)), obs], by rw [if_neg (by decide), if_neg (by decide), if_neg (by decide), if_pos (by decide), q.b0 hb, obs], hr⟩
      · rw [if_neg (by decide), if_neg (by decide), if_neg (by decide), if_neg (by decide), if_neg (by decide), if_neg (by decide), if_neg (by decide), if_neg (by decide), show (!(clt (nI 4) 4) && !(clt 8 (nI 4))) = true from by decide, if_pos rfl]
        unfold f0_tellChosen
        rw [on]
        cases o20 : ceq (S 20 b) 1 with
        | true => exact ⟨S 23 b, ν1, by rw [if_pos rfl, obs, if_pos (by decide), obs, cs.r_root (by omega)], by rw [obs, if_pos rfl, show (3 : Int32) + nI 4 - 4 = 3 from by decide, q.b3 hb (inv_32 inv b hb (ceq_of o20)), obs, obs], hr⟩
        | false => exact ⟨-1, ν1, by rw [if_neg (by decide), obs, if_neg (by decide), if_neg (by decide), if_neg (by decide), if_neg (by decide), if_neg (by decide), obs], by rw [obs, if_neg (by decide), obs], hr⟩
      · rw [if_neg (by decide), if_neg (by decide), if_neg (by decide), if_neg (by decide), if_neg (by decide), if_neg (by decide), if_neg (by decide), if_neg (by decide), show (!(clt (nI 5) 4) && !(clt 8 (nI 5))) = true from by decide, if_pos rfl]
        unfold f0_tellChosen
        rw [on]
        cases o20 : ceq (S 20 b) 1 with
        | true => exact ⟨S 24 b, ν1, by rw [if_pos rfl, obs, if_neg (by decide), if_pos (by decide), obs, cs.r_cost (by omega)], by rw [obs, if_pos rfl, show (3 : Int32) + nI 5 - 4 = 4 from by decide, q.b4 hb (inv_32 inv b hb (ceq_of o20)), obs, obs], hr⟩
        | false => exact ⟨-1, ν1, by rw [if_neg (by decide), obs, if_neg (by decide), if_neg (by decide), if_neg (by decide), if_neg (by decide), if_neg (by decide), obs], by rw [obs, if_neg (by decide), obs], hr⟩
      · rw [if_neg (by decide), if_neg (by decide), if_neg (by decide), if_neg (by decide), if_neg (by decide), if_neg (by decide), if_neg (by decide), if_neg (by decide), show (!(clt (nI 6) 4) && !(clt 8 (nI 6))) = true from by decide, if_pos rfl]
        unfold f0_tellChosen
        rw [on]
        cases o20 : ceq (S 20 b) 1 with
        | true => exact ⟨S 25 b, ν1, by rw [if_pos rfl, obs, if_neg (by decide), if_neg (by decide), if_pos (by decide), obs, cs.r_rport (by omega)], by rw [obs, if_pos rfl, show (3 : Int32) + nI 6 - 4 = 5 from by decide, q.b5 hb (inv_32 inv b hb (ceq_of o20)), obs, obs], hr⟩
        | false => exact ⟨-1, ν1, by rw [if_neg (by decide), obs, if_neg (by decide), if_neg (by decide), if_neg (by decide), if_neg (by decide), if_neg (by decide), obs], by rw [obs, if_neg (by decide), obs], hr⟩
      · rw [if_neg (by decide), if_neg (by decide), if_neg (by decide), if_neg (by decide), if_neg (by decide), if_neg (by decide), if_neg (by decide), if_neg (by decide), show (!(clt (nI 7) 4) && !(clt 8 (nI 7))) = true from by decide, if_pos rfl]
        unfold f0_tellChosen
        rw [on]
        cases o20 : ceq (S 20 b) 1 with
        | true => exact ⟨S 26 b, ν1, by rw [if_pos rfl, obs, if_neg (by decide), if_neg (by decide), if_neg (by decide), if_pos (by decide), obs, cs.r_bage (by omega)], by rw [obs, if_pos rfl, show (3 : Int32) + nI 7 - 4 = 6 from by decide, q.b6 hb (inv_32 inv b hb (ceq_of o20)), obs, obs], hr⟩
        | false => exact ⟨-1, ν1, by rw [if_neg (by decide), obs, if_neg (by decide), if_neg (by decide), if_neg (by decide), if_neg (by decide), if_neg (by decide), obs], by rw [obs, if_neg (by decide), obs], hr⟩
      · rw [if_neg (by decide), if_neg (by decide), if_neg (by decide), if_neg (by decide), if_neg (by decide), if_neg (by decide), if_neg (by decide), if_neg (by decide), show (!(clt (nI 8) 4) && !(clt 8 (nI 8))) = true from by decide, if_pos rfl]
        unfold f0_tellChosen
        rw [on]
        cases o20 : ceq (S 20 b) 1 with
        | true => exact ⟨S 27 b, ν1, by rw [if_pos rfl, obs, if_neg (by decide), if_neg (by decide), if_neg (by decide), if_neg (by decide), if_pos (by decide), obs, cs.r_short (by omega)], by rw [obs, if_pos rfl, show (3 : Int32) + nI 8 - 4 = 7 from by decide, q.b7 hb, obs, obs], hr⟩
        | false => exact ⟨-1, ν1, by rw [if_neg (by decide), obs, if_neg (by decide), if_neg (by decide), if_neg (by decide), if_neg (by decide), if_neg (by decide), obs], by rw [obs, if_neg (by decide), obs], hr⟩
    · have z : ∀ j, j < 9 → ¬ ceq c (nI j) = true := fun j hj => by rw [hc j hj]; decide
      have z4 : (!(clt c 4) && !(clt 8 c)) = false := by
        cases h1 : clt c 4 with
        | true => rfl
        | false =>
          cases h2 : clt 8 c with
          | true => rfl
          | false =>
            exfalso
            have c0 : clt c 0 = false := by
              cases h3 : clt c 0 with
              | false => rfl
              | true =>
                have a1 : c < 0 := of_decide_eq_true h3
                have a2 : ¬ c < 4 := of_decide_eq_false h1
                exact absurd (Int32.lt_trans a1 (by decide)) a2
            have c9 : clt c (nI 9) = true := by
              have := clt_le (i := c) (n := 8) (by omega)
              rw [← this]
              show (!clt 8 c) = true
              rw [h2]; rfl
            rw [c0, c9] at e
            exact absurd e (by decide)
      refine ⟨-1, ν1, ?_, ?_, hr⟩
      · rw [if_neg (show ¬ ceq c 0 = true from z 0 (by omega)), if_neg (show ¬ ceq c 1 = true from z 1 (by omega)), if_neg (show ¬ ceq c 2 = true from z 2 (by omega)), if_neg (show ¬ ceq c 3 = true from z 3 (by omega))]
        unfold f0_tellChosen
        cases gB μ 3 (x + 51 + 13 + 3 * b) with
        | true => rw [if_pos rfl, obs, if_neg (show ¬ ceq c 4 = true from z 4 (by omega)), if_neg (show ¬ ceq c 5 = true from z 5 (by omega)), if_neg (show ¬ ceq c 6 = true from z 6 (by omega)), if_neg (show ¬ ceq c 7 = true from z 7 (by omega)), if_neg (show ¬ ceq c 8 = true from z 8 (by omega)), obs]
        | false => rfl
      · rw [if_neg (show ¬ ceq c 0 = true from z 0 (by omega)), if_neg (show ¬ ceq c 1 = true from z 1 (by omega)), if_neg (show ¬ ceq c 2 = true from z 2 (by omega)), if_neg (show ¬ ceq c 3 = true from z 3 (by omega)), z4, if_neg (by decide), obs]; rfl
  · rw [e, if_neg (by decide), if_neg (by decide)]
    exact ⟨-1, ν1, rfl, rfl, hr⟩
theorem q_port (h : JR x m top μ ν) (a b c : Int32) : ∃ r ν', f11_port x a b c μ = some r ∧ f12_port m a b c ν = some (r, ν') ∧ JR x m top μ ν' := by
  obtain ⟨N, S, st, w, h⟩ := h
  have cs := h.1.cs
  have q := h.b0
  have nw := h.1.nw
  have hr := h.ask
  have l14 := nw.l14; have b8 := nw.b8; have h8 := nw.h8
  have wr := h.1.wr
  have inv := h.1.inv
  unfold f11_port f12_port
  rw [show wF ν 1244 m 0 = some (sF ν 1244 m 0) from rfl]
  generalize sF ν 1244 m 0 = ν1 at q hr ⊢
  simp only [wr, obs]
  rcases isP_in cs q a b with ⟨b', p', hb, hp, rfl, rfl, e1, e2⟩ | ⟨e1, e2⟩
  · rw [e1, e2]
    simp only [obs, ↓reduceIte]
    obtain ⟨he, ebo, epo⟩ := nw.2.2.2.2.2.1 _ _ hb hp
    have epl : pl N (eo N b' p') = 6 * b' + p' := by unfold pl; rw [ebo, epo]
    have p48 := nw.pl_48 he
    rw [cs.w_eo hb hp, obs, rI_nI (by omega) (by omega), obs]
    have aq : ∀ e, x + 88 + 2 * e = x + 51 + 37 + 2 * e := fun e => by omega
    rw [aq]
    have pat : ∀ k, k < 18 → f12_portAt (nI b') (nI p') (nI k) ν1 = some (nI (100 + 18 * pl N (eo N b' p') + k)) := fun k hk => by
      unfold f12_portAt
      rw [mulQ6, nI_add, mulQ18, addQ100, nI_add, epl]
    have m1 := q.1.1

    rw [isIn9, obs]
    unfold f4_tell
    rcases rngC 10 (by omega) c with ⟨c', hc, rfl⟩ | ⟨hc, e⟩
    · rw [rngT (by omega) hc, obs, if_pos rfl, pat c' (by omega), obs, q.its (by omega), obs, m1 _ c' he (by omega) (fun z => absurd z (by omega))]
      have : c' = 0 ∨ c' = 1 ∨ c' = 2 ∨ c' = 3 ∨ c' = 4 ∨ c' = 5 ∨ c' = 6 ∨ c' = 7 ∨ c' = 8 ∨ c' = 9 := by omega
      rcases this with rfl | rfl | rfl | rfl | rfl | rfl | rfl | rfl | rfl | rfl
      · exact ⟨S 0 _, ν1, by rw [if_pos (by decide), obs, cs.r_role (by omega)], by rw [obs], hr⟩
      · exact ⟨S 1 _, ν1, by rw [if_neg (by decide), if_pos (by decide), obs, cs.r_state (by omega)], by rw [obs], hr⟩
      · exact ⟨S 2 _, ν1, by rw [if_neg (by decide), if_neg (by decide), if_pos (by decide), obs, cs.r_wait (by omega)], by rw [obs], hr⟩
      · exact ⟨S 3 _, ν1, by rw [if_neg (by decide), if_neg (by decide), if_neg (by decide), if_pos (by decide), obs, cs.r_chg (by omega)], by rw [obs], hr⟩
      · exact ⟨S 4 _, ν1, by rw [if_neg (by decide), if_neg (by decide), if_neg (by decide), if_neg (by decide), if_pos (by decide), b01' (cs.c_agr _ (by omega)), obs, obs], by rw [obs], hr⟩
      · exact ⟨S 5 _, ν1, by rw [if_neg (by decide), if_neg (by decide), if_neg (by decide), if_neg (by decide), if_neg (by decide), if_pos (by decide), b01' (cs.c_edge _ (by omega)), obs, obs], by rw [obs], hr⟩
      · exact ⟨S 6 _, ν1, by rw [if_neg (by decide), if_neg (by decide), if_neg (by decide), if_neg (by decide), if_neg (by decide), if_neg (by decide), if_pos (by decide), b01' (cs.c_spk _ (by omega)), obs, obs], by rw [obs], hr⟩
      · exact ⟨S 7 _, ν1, by rw [if_neg (by decide), if_neg (by decide), if_neg (by decide), if_neg (by decide), if_neg (by decide), if_neg (by decide), if_neg (by decide), if_pos (by decide), b01' (cs.c_owes _ (by omega)), obs, obs], by rw [obs], hr⟩
      · exact ⟨S 8 _, ν1, by rw [if_neg (by decide), if_neg (by decide), if_neg (by decide), if_neg (by decide), if_neg (by decide), if_neg (by decide), if_neg (by decide), if_neg (by decide), if_pos (by decide), b01' (cs.c_answ _ (by omega)), obs, obs], by rw [obs], hr⟩
      · exact ⟨S 9 _, ν1, by rw [if_neg (by decide), if_neg (by decide), if_neg (by decide), if_neg (by decide), if_neg (by decide), if_neg (by decide), if_neg (by decide), if_neg (by decide), if_neg (by decide), if_pos (by decide), b01' (cs.c_mark _ (by omega)), obs, obs], by rw [obs], hr⟩
    · have z : ∀ j, j < 10 → ¬ ceq c (nI j) = true := fun j hj => by rw [hc j hj]; decide
      exact ⟨-1, ν1, by rw [if_neg (show ¬ ceq c 0 = true from z 0 (by omega)), if_neg (show ¬ ceq c 1 = true from z 1 (by omega)), if_neg (show ¬ ceq c 2 = true from z 2 (by omega)), if_neg (show ¬ ceq c 3 = true from z 3 (by omega)), if_neg (show ¬ ceq c 4 = true from z 4 (by omega)), if_neg (show ¬ ceq c 5 = true from z 5 (by omega)), if_neg (show ¬ ceq c 6 = true from z 6 (by omega)), if_neg (show ¬ ceq c 7 = true from z 7 (by omega)), if_neg (show ¬ ceq c 8 = true from z 8 (by omega)), if_neg (show ¬ ceq c 9 = true from z 9 (by omega)), obs], by rw [e, obs, if_neg (by decide), obs], hr⟩
  · rw [e1, e2]
    exact ⟨-1, ν1, rfl, rfl, hr⟩
theorem q_held (h : JR x m top μ ν) (a b c : Int32) : ∃ r ν', f11_held x a b c μ = some r ∧ f12_held m a b c ν = some (r, ν') ∧ JR x m top μ ν' := by
  obtain ⟨N, S, st, w, h⟩ := h
  have cs := h.1.cs
  have q := h.b0
  have nw := h.1.nw
  have hr := h.ask
  have l14 := nw.l14; have b8 := nw.b8; have h8 := nw.h8
  have wr := h.1.wr
  have inv := h.1.inv
  unfold f11_held f12_held
  rw [show wF ν 1244 m 0 = some (sF ν 1244 m 0) from rfl]
  generalize sF ν 1244 m 0 = ν1 at q hr ⊢
  simp only [wr, obs]
  rcases isP_in cs q a b with ⟨b', p', hb, hp, rfl, rfl, e1, e2⟩ | ⟨e1, e2⟩
  · rw [e1, e2]
    simp only [obs, ↓reduceIte]
    obtain ⟨he, ebo, epo⟩ := nw.2.2.2.2.2.1 _ _ hb hp
    have epl : pl N (eo N b' p') = 6 * b' + p' := by unfold pl; rw [ebo, epo]
    have p48 := nw.pl_48 he
    rw [cs.w_eo hb hp, obs, rI_nI (by omega) (by omega), obs]
    have aq : ∀ e, x + 88 + 2 * e = x + 51 + 37 + 2 * e := fun e => by omega
    rw [aq]
    have pat : ∀ k, k < 18 → f12_portAt (nI b') (nI p') (nI k) ν1 = some (nI (100 + 18 * pl N (eo N b' p') + k)) := fun k hk => by
      unfold f12_portAt
      rw [mulQ6, nI_add, mulQ18, addQ100, nI_add, epl]
    have m1 := q.1.1

    have isin : f12_isIn c 0 5 ν1 = some (!(clt c 0) && clt c (nI 6)) := isIn0 (n := 6) (by omega)
    rw [isin, show f12_portAt (nI b') (nI p') 10 ν1 = some (nI (100 + 18 * pl N (eo N b' p') + 10)) from pat 10 (by omega)]
    simp only [obs]
    rw [q.its (by omega)]
    simp only [obs]
    rw [m1 _ 10 he (by omega) (fun z => absurd z (by omega))]
    unfold f4_tellHeld
    rw [cs.r_holds (by omega)]
    rcases rngC 6 (by omega) c with ⟨c', hc, rfl⟩ | ⟨hc, e⟩
    · rw [rngT (by omega) hc, if_pos rfl, obs]
      cases o10 : ceq (S 10 (eo N b' p')) 1 with
      | false => exact ⟨-1, ν1, by rw [if_neg (by decide), obs, if_neg (by decide), if_neg (by decide), if_neg (by decide), if_neg (by decide), if_neg (by decide), if_neg (by decide), obs], by rw [if_neg (by decide), obs], hr⟩
      | true =>
        rw [if_pos rfl, if_pos rfl, show (11 : Int32) + nI c' = nI (11 + c') from nI_add 11 c', pat (11 + c') (by omega)]
        simp only [obs]
        rw [q.its (by omega)]
        simp only [obs]
        rw [m1 _ (11 + c') he (by omega) (fun _ => ceq_of o10)]
        have : c' = 0 ∨ c' = 1 ∨ c' = 2 ∨ c' = 3 ∨ c' = 4 ∨ c' = 5 := by omega
        rcases this with rfl | rfl | rfl | rfl | rfl | rfl
        · exact ⟨S 11 _, ν1, by rw [if_pos (by decide), obs, cs.r_hroot (by omega)], rfl, hr⟩
        · exact ⟨S 12 _, ν1, by rw [if_neg (by decide), if_pos (by decide), obs, cs.r_hcost (by omega)], rfl, hr⟩
        · exact ⟨S 13 _, ν1, by rw [if_neg (by decide), if_neg (by decide), if_pos (by decide), obs, cs.r_hid (by omega)], rfl, hr⟩
        · exact ⟨S 14 _, ν1, by rw [if_neg (by decide), if_neg (by decide), if_neg (by decide), if_pos (by decide), obs, cs.r_hport (by omega)], rfl, hr⟩
        · exact ⟨S 15 _, ν1, by rw [if_neg (by decide), if_neg (by decide), if_neg (by decide), if_neg (by decide), if_pos (by decide), obs, cs.r_hage (by omega)], rfl, hr⟩
        · exact ⟨S 16 _, ν1, by rw [if_neg (by decide), if_neg (by decide), if_neg (by decide), if_neg (by decide), if_neg (by decide), if_pos (by decide), obs, cs.r_life (by omega)], rfl, hr⟩
    · have z : ∀ j, j < 6 → ¬ ceq c (nI j) = true := fun j hj => by rw [hc j hj]; decide
      refine ⟨-1, ν1, ?_, by rw [e, if_neg (by decide), obs, if_neg (by decide), obs], hr⟩
      cases ceq (S 10 (eo N b' p')) 1 with
      | true => rw [if_pos rfl, obs, if_neg (show ¬ ceq c 0 = true from z 0 (by omega)), if_neg (show ¬ ceq c 1 = true from z 1 (by omega)), if_neg (show ¬ ceq c 2 = true from z 2 (by omega)), if_neg (show ¬ ceq c 3 = true from z 3 (by omega)), if_neg (show ¬ ceq c 4 = true from z 4 (by omega)), if_neg (show ¬ ceq c 5 = true from z 5 (by omega)), obs]
      | false => rfl
  · rw [e1, e2]
    exact ⟨-1, ν1, rfl, rfl, hr⟩
theorem q_address (h : JR x m top μ ν) (a b c : Int32) : ∃ r ν', f11_address x a b c μ = some r ∧ f12_address m a b c ν = some (r, ν') ∧ JR x m top μ ν' := by
  obtain ⟨N, S, st, w, h⟩ := h
  have cs := h.1.cs
  have q := h.b0
  have nw := h.1.nw
  have hr := h.ask
  have l14 := nw.l14; have b8 := nw.b8; have h8 := nw.h8
  have wr := h.1.wr
  have inv := h.1.inv
  unfold f11_address f12_address
  rw [show wF ν 1244 m 0 = some (sF ν 1244 m 0) from rfl]
  generalize sF ν 1244 m 0 = ν1 at q hr ⊢
  simp only [wr, obs]
  rw [C_isB cs, C_isH cs, R_isB q, R_isH q, show f12_isIn c 0 1 ν1 = some (!(clt c 0) && clt c (nI 2)) from isIn0 (n := 2) (by omega)]
  simp only [obs]
  rcases rngC (nB N) (by omega) a with ⟨b', hb, rfl⟩ | ⟨_, e⟩
  · rcases rngC (nH N) (by omega) b with ⟨g, hg, rfl⟩ | ⟨_, e⟩
    · rw [rngT (by omega) hb, rngT (by omega) hg]
      simp only [Bool.not_true, Bool.false_eq_true, ↓reduceIte, obs]
      have m7 := q.1.2.2.2.2.2.2.1 b' g hb hg
      have ad : f12_addressAt (nI b') (nI g) ν1 = some (nI (986 + 2 * (8 * b' + g))) := by
        unfold f12_addressAt
        rw [mulQ8, nI_add, mulQ2, addQ986]
      rw [ad]
      simp only [obs]
      rw [q.its (by omega)]
      simp only [obs]
      rw [m7.1, mulR8, nI_add, show x + 57 = x + 51 + 6 by omega, show x + 58 = x + 51 + 7 by omega, rA_nI (by omega) (by omega), obs, cs.r_la (by omega), rA_nI (by omega) (by omega), obs, cs.r_lg (by omega)]
      cases o1 : ceq (S 42 (b' * 8 + g)) (-1) with
      | true =>
        refine ⟨-1, ν1, by rw [if_pos rfl], ?_, hr⟩
        cases !(!(clt c 0) && clt c (nI 2)) <;> rfl
      | false =>
        rw [if_neg (by decide)]
        rcases rngC 2 (by omega) c with ⟨c', hc, rfl⟩ | ⟨hc, e⟩
        · rw [rngT (by omega) hc]
          simp only [Bool.not_true, Bool.false_eq_true, ↓reduceIte, obs]
          rw [nI_add, q.its (by omega), obs]
          have : c' = 0 ∨ c' = 1 := by omega
          rcases this with rfl | rfl
          · exact ⟨S 42 (b' * 8 + g), ν1, by rw [if_pos (by decide)], by rw [show 986 + 2 * (8 * b' + g) + 0 = 986 + 2 * (8 * b' + g) from rfl, m7.1], hr⟩
          · exact ⟨S 43 (b' * 8 + g), ν1, by rw [if_neg (by decide), if_pos (by decide)], by rw [m7.2], hr⟩
        · rw [e]
          have z : ∀ j, j < 2 → ¬ ceq c (nI j) = true := fun j hj => by rw [hc j hj]; decide
          exact ⟨-1, ν1, by rw [if_neg (show ¬ ceq c 0 = true from z 0 (by omega)), if_neg (show ¬ ceq c 1 = true from z 1 (by omega))], rfl, hr⟩
    · rw [rngT (by omega) hb, e]
      exact ⟨-1, ν1, rfl, rfl, hr⟩
  · rw [e]
    exact ⟨-1, ν1, rfl, rfl, hr⟩
theorem q_message (h : JR x m top μ ν) (a c : Int32) : ∃ r ν', f11_message x a c μ = some r ∧ f12_message m a c ν = some (r, ν') ∧ JR x m top μ ν' := by
  obtain ⟨N, S, st, w, h⟩ := h
  have s9 := h.1.st9
  obtain ⟨r, e1, h1⟩ := C_message h.1.cs h.1.wr h.1.s0 (by omega) h.1.inv.2.1 (k := a) (c := c)
  obtain ⟨r', e2, h2⟩ := R_message h.1.m0 h.1.inv.2.1 (by omega) (k := a) (c := c)
  have e3 := MSG.u h1 h2
  subst e3
  exact ⟨r, _, e1, e2, h.ask⟩
theorem q_has (h : JR x m top μ ν) (c : Int32) : ∃ r ν', f11_has x c μ = some r ∧ f12_has m c ν = some (r, ν') ∧ JR x m top μ ν' := by
  obtain ⟨N, S, st, w, h⟩ := h
  obtain ⟨c1, n1, _, _, a3, a4, _⟩ := h.2.2.2.2.1
  obtain ⟨_, f, c2, _, _, _, b4, b5, _⟩ := h.2.2.2.2.2.2.1
  obtain ⟨r, e1, e2⟩ := q_has0 h.1 (c := c) (a3.trans a4.symm) (b4.trans b5.symm) h.2.2.1.2.2.2.1.1
  exact ⟨r, _, e1, e2, h.ask⟩
theorem q_kept (h : JR x m top μ ν) (a c : Int32) : ∃ r ν', f11_kept x a c μ = some r ∧ f12_kept m a c ν = some (r, ν') ∧ JR x m top μ ν' := by
  obtain ⟨N, S, st, w, h⟩ := h
  obtain ⟨r, e1, e2⟩ := q_kept0 h.1 (k := a) (c := c)
  exact ⟨r, _, e1, e2, h.ask⟩
theorem q_letter (h : JR x m top μ ν) (a b c : Int32) : ∃ r, f11_letter x a b c μ = some r ∧ f12_letter m a b c ν = some r := by
  obtain ⟨N, S, st, w, h⟩ := h
  exact q_letter0 h.1
theorem q_fault1 (h : JR x m top μ ν) (c : Int32) : ∃ r, f11_fault x c μ = some r ∧ f12_fault m c ν = some r := by
  obtain ⟨N, S, st, w, h⟩ := h
  exact q_fault h.2.2.1.2.2.1 c
theorem q_octet1 (h : JR x m top μ ν) (c : Int32) : ∃ r, f11_octet x c μ = some r ∧ f12_octet m c ν = some r := by
  obtain ⟨N, S, st, w, h⟩ := h
  exact q_octet h.2.2.1.2.2.2.2 c
theorem q_status1 (h : JR x m top μ ν) (c : Int32) : ∃ r, f11_status x c μ = some r ∧ f12_status m c ν = some r := by
  obtain ⟨N, S, st, w, h⟩ := h
  exact q_status h.2.2.1.2.1 c
theorem q_frame (h : JR x m top μ ν) (c : Int32) : ∃ r, f11_frame x c μ = some r ∧ f12_frame m c ν = some r := by
  obtain ⟨N, S, st, w, h⟩ := h
  obtain ⟨f1, f2⟩ := h.2.2.2.2.2.1
  unfold f11_frame f12_frame
  rw [← f1]
  cases e : gB μ 203 (x + 14) with
  | false => exact ⟨-1, rfl, rfl⟩
  | true =>
    obtain ⟨a1, a2, a3⟩ := f2 e
    simp only [↓reduceIte, obs]
    rw [a1, a2, b01' a3]
    simp only [obs]
    cases ceq c 0 <;> cases ceq c 1 <;> cases ceq c 2 <;> exact ⟨_, rfl, rfl⟩
end zJ6
