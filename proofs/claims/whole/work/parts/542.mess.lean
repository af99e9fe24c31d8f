/-! message AND kept, both -/
def MSGP (N : zN) (S : zS) (st k c : Nat) (r : Int32) : Prop := c < 10 ∧ ∃ t, t < 144 ∧ mp N S st t = true ∧ cnt (mp N S st) t = k ∧ r = mcol N S c (mq N st t)
def MSG (N : zN) (S : zS) (st : Nat) (k c r : Int32) : Prop := (∃ k' c', k' < 2 ^ 31 ∧ k = nI k' ∧ c = nI c' ∧ MSGP N S st k' c' r) ∨ ((¬ ∃ k' c' r', k' < 2 ^ 31 ∧ k = nI k' ∧ c = nI c' ∧ MSGP N S st k' c' r') ∧ r = -1)
section zJ2
variable {N : zN} {x m w s B st a b i n t q o : Nat} {μ μ0 ν0 ν : zM} {S : zS} {k c r r' : Int32}
theorem nI_inj {a b : Nat} (ha : a < 2 ^ 31) (hb : b < 2 ^ 31) (h : nI a = nI b) : a = b := by
  have := congrArg Int32.toNatClampNeg h
  rwa [nI_clamp ha, nI_clamp hb] at this
theorem MSGP.u {k c : Nat} {r r' : Int32} (h : MSGP N S st k c r) (h' : MSGP N S st k c r') : r = r' := by
  obtain ⟨_, t, h1, h2, h3, h4⟩ := h
  obtain ⟨_, t', g1, g2, g3, g4⟩ := h'
  have := cnt_inj h2 g2 (h3.trans g3.symm)
  subst this
  rw [h4, g4]
theorem MSG.u (h : MSG N S st k c r) (h' : MSG N S st k c r') : r = r' := by
  rcases h with ⟨k1, c1, h1, h2, h3, h4⟩ | ⟨h1, h2⟩
  · rcases h' with ⟨k2, c2, g1, g2, g3, g4⟩ | ⟨g1, g2⟩
    · have a1 : k1 = k2 := nI_inj h1 g1 (h2.symm.trans g2)
      have a2 : c1 = c2 := nI_inj (by have := h4.1; omega) (by have := g4.1; omega) (h3.symm.trans g3)
      subst a1 a2
      exact h4.u g4
    · exact absurd ⟨k1, c1, r, h1, h2, h3, h4⟩ g1
  · rcases h' with ⟨k2, c2, g1, g2, g3, g4⟩ | ⟨g1, g2⟩
    · exact absurd ⟨k2, c2, r', g1, g2, g3, g4⟩ h1
    · rw [h2, g2]
theorem rng10 : (∃ c', c' < 10 ∧ c = nI c') ∨ ((∀ j, j < 10 → ceq c (nI j) = false) ∧ (!(clt c 0) && clt c (nI 10)) = false) := by
  cases h1 : clt c 0 with
  | true =>
    refine Or.inr ⟨fun j hj => ?_, rfl⟩
    cases h2 : ceq c (nI j) with
    | false => rfl
    | true =>
      rw [ceq_of h2, show (0 : Int32) = nI 0 from rfl, clt_nI (by omega) (by omega)] at h1
      exact absurd (of_decide_eq_true h1) (by omega)
  | false =>
    cases h2 : clt c (nI 10) with
    | true =>
      obtain ⟨j, hj, rfl⟩ := rI_of h1 h2 (by omega)
      exact Or.inl ⟨j, hj, rfl⟩
    | false =>
      refine Or.inr ⟨fun j hj => ?_, rfl⟩
      cases h3 : ceq c (nI j) with
      | false => rfl
      | true =>
        rw [ceq_of h3, clt_nI (by omega) (by omega)] at h2
        exact absurd hj (of_decide_eq_false h2)
theorem C_message (h : CS N (x + 51) w μ0 μ S) (hw : gR μ 1111 x = some w) (h0 : S 44 0 = nI st) (hs : st + 3 < 2 ^ 31) (nwm : MI N st S) : ∃ r, f11_message x k c μ = some r ∧ MSG N S st k c r := by
  have nw := h.nw
  have l14 := nw.l14
  unfold f11_message
  cases h1 : clt k 0 with
  | true =>
    refine ⟨-1, by rw [if_pos rfl, obs, show ceq (-1) (-1) = true by decide, if_pos rfl], Or.inr ⟨?_, rfl⟩⟩
    rintro ⟨k', c', r', a1, rfl, _⟩
    rw [show (0 : Int32) = nI 0 from rfl, clt_nI (by omega) (by omega)] at h1
    exact absurd (of_decide_eq_true h1) (by omega)
  | false =>
    rw [if_neg (by decide)]
    obtain ⟨k', hk, rfl⟩ := nI_of (of_decide_eq_false h1)
    obtain ⟨v, e, hv⟩ := C_mslot (k := k') h h0 hs hk
    rw [e, obs, obs]
    rcases hv with ⟨t, t1, t2, t3, rfl⟩ | ⟨rfl, hc⟩
    · obtain ⟨z1, z2, z3⟩ := mp_of nwm nw t1 t2 hs
      have q84 : mq N st t < 84 := by omega
      have hd : mq N st t / 3 < 2 * nL N := by omega
      rw [show ceq (nI (mq N st t)) (-1) = false from oI_none (by omega), if_neg (by decide), rI_nI q84 (by omega), obs, iDivR3 (by omega), obs]
      have g1 := h.r_arr q84
      have g2 := h.r_bits q84
      have g3 := h.r_reply q84
      have g4 := h.c_mroot _ q84
      have g5 := h.c_mcost _ q84
      have g6 := h.c_mid _ q84
      have g7 := h.c_mport _ q84
      have g8 := h.c_mage _ q84
      have g9 := h.c_reply _ q84
      rw [show x + 51 + 93 + 2 * mq N st t = x + 144 + 2 * mq N st t by omega] at g1 g2 g3 g4 g5 g6 g7 g8 g9
      rcases rng10 (c := c) with ⟨c', hc, rfl⟩ | ⟨hc, hc2⟩
      · have fin : ∀ r, r = mcol N S c' (mq N st t) → MSG N S st (nI k') (nI c') r := fun r e => Or.inl ⟨k', c', hk, rfl, rfl, hc, t, t1, t2, t3, e⟩
        have : c' = 0 ∨ c' = 1 ∨ c' = 2 ∨ c' = 3 ∨ c' = 4 ∨ c' = 5 ∨ c' = 6 ∨ c' = 7 ∨ c' = 8 ∨ c' = 9 := by omega
        rcases this with rfl | rfl | rfl | rfl | rfl | rfl | rfl | rfl | rfl | rfl
        · exact ⟨_, by rw [if_pos (by decide), g1]; rfl, fin _ rfl⟩
        · exact ⟨_, by rw [if_neg (by decide), if_pos (by decide), hw, obs, h.w_bo hd, obs]; rfl, fin _ rfl⟩
        · exact ⟨_, by rw [if_neg (by decide), if_neg (by decide), if_pos (by decide), hw, obs, h.w_po hd, obs]; rfl, fin _ rfl⟩
        · refine ⟨bI (gB μ 303 (x + 144 + 2 * mq N st t)), ?_, fin _ g9⟩
          rw [if_neg (by decide), if_neg (by decide), if_neg (by decide), if_pos (by decide)]
          cases gB μ 303 (x + 144 + 2 * mq N st t) <;> rfl
        · exact ⟨_, by rw [if_neg (by decide), if_neg (by decide), if_neg (by decide), if_neg (by decide), if_pos (by decide), g4]; rfl, fin _ rfl⟩
        · exact ⟨_, by rw [if_neg (by decide), if_neg (by decide), if_neg (by decide), if_neg (by decide), if_neg (by decide), if_pos (by decide), g5]; rfl, fin _ rfl⟩
        · exact ⟨_, by rw [if_neg (by decide), if_neg (by decide), if_neg (by decide), if_neg (by decide), if_neg (by decide), if_neg (by decide), if_pos (by decide), g6]; rfl, fin _ rfl⟩
        · exact ⟨_, by rw [if_neg (by decide), if_neg (by decide), if_neg (by decide), if_neg (by decide), if_neg (by decide), if_neg (by decide), if_neg (by decide), if_pos (by decide), g7]; rfl, fin _ rfl⟩
        · exact ⟨_, by rw [if_neg (by decide), if_neg (by decide), if_neg (by decide), if_neg (by decide), if_neg (by decide), if_neg (by decide), if_neg (by decide), if_neg (by decide), if_pos (by decide), g8]; rfl, fin _ rfl⟩
        · exact ⟨_, by rw [if_neg (by decide), if_neg (by decide), if_neg (by decide), if_neg (by decide), if_neg (by decide), if_neg (by decide), if_neg (by decide), if_neg (by decide), if_neg (by decide), if_pos (by decide), g2]; rfl, fin _ rfl⟩
      · refine ⟨-1, ?_, Or.inr ⟨?_, rfl⟩⟩
        · have z : ∀ j, j < 10 → ¬ ceq c (nI j) = true := fun j hj => by rw [hc j hj]; decide
          rw [if_neg (show ¬ ceq c 0 = true from z 0 (by omega)), if_neg (show ¬ ceq c 1 = true from z 1 (by omega)), if_neg (show ¬ ceq c 2 = true from z 2 (by omega)), if_neg (show ¬ ceq c 3 = true from z 3 (by omega)), if_neg (show ¬ ceq c 4 = true from z 4 (by omega)), if_neg (show ¬ ceq c 5 = true from z 5 (by omega)), if_neg (show ¬ ceq c 6 = true from z 6 (by omega)), if_neg (show ¬ ceq c 7 = true from z 7 (by omega)), if_neg (show ¬ ceq c 8 = true from z 8 (by omega)), if_neg (show ¬ ceq c 9 = true from z 9 (by omega))]
        · rintro ⟨k2, c2, r', _, _, rfl, h4⟩
          have := hc c2 h4.1
          rw [ceq_rf] at this
          exact absurd this (by decide)
    · refine ⟨-1, by rw [show ceq (-1) (-1) = true by decide, if_pos rfl], Or.inr ⟨?_, rfl⟩⟩
      rintro ⟨k2, c2, r', a1, a2, _, _, t, t1, t2, t3, _⟩
      have := nI_inj hk a1 a2
      have := cnt_mono (p := mp N S st) (a := t + 1) (144 - (t + 1))
      rw [show t + 1 + (144 - (t + 1)) = 144 by omega, cnt_s, if_pos t2] at this
      omega
theorem M0.b0 (h : M0 N m 0 ν S) : MS N m 0 (sF ν 1244 m 0) (sF ν 1244 m 0) S := (h.mv (ν' := sF ν 1244 m 0) (fun k h1 h2 => by rw [gF_sF, if_neg (by omega)]) (fun _ _ _ _ => rfl) (fun _ _ _ => rfl) (fun _ => rfl) (fun _ => rfl)).ms (by rw [gF_sF, if_pos ⟨rfl, rfl⟩]; rfl) (Or.inl rfl)
theorem ft_b0 : FrT m ν (sF ν 1244 m 0) := ⟨fun k a x y => by rw [gF_sF, if_neg x], fun _ _ _ => rfl, fun _ _ _ => rfl, fun a j x y => rfl, fun _ _ _ => rfl, fun _ _ _ => rfl⟩
theorem isIn9 : f12_isIn c 0 9 ν = some (!(clt c 0) && clt c (nI 10)) := isIn0 (n := 10) (by omega)
theorem R_msgL2 {qi : Nat} (h : MS N m B ν0 ν S) (mi : MI N st S) (hs : st + 3 < 2 ^ 31) (hi : (lS S)[i]? = some qi) : zloop (fun s => f12_message_L2 m ν (nI i) s.1 s.2) 1000000 (0, 0) = some (nI (cnt (mp N S st) (tq N S st qi)), nI (lS S).length) := by
  have nw := h.nw
  have nd := h.1.2.2.2.2.2.2.2.2.2.2.2
  have ll := h.ll
  obtain ⟨i84, i2, i3⟩ := h.lk84 hi
  have tb := (tq_of mi nw i2 ((mi _ i2).1.trans i3) hs).1
  obtain ⟨r, e, rfl⟩ := zloop_up (body := fun s => f12_message_L2 m ν (nI i) s.1 s.2) (fun o (_ : Unit) => (nI (cnt (fun o => decide (tq N S st ((lS S).getD o 0) < tq N S st qi)) o), nI o)) (fun _ _ => True) (lS S).length (fun r => r = (nI (cnt (fun o => decide (tq N S st ((lS S).getD o 0) < tq N S st qi)) (lS S).length), nI (lS S).length)) (by
    intro o y ho _
    refine ⟨(), ?_, trivial⟩
    show f12_message_L2 m ν (nI i) (nI (cnt (fun o => decide (tq N S st ((lS S).getD o 0) < tq N S st qi)) o)) (nI o) = _
    have ho' : (lS S)[o]? = some ((lS S).getD o 0) := by rw [List.getD_eq_getElem?_getD, List.getElem?_eq_getElem ho]; rfl
    unfold f12_message_L2
    rw [h.len, obs, clt_nI (by omega) (by omega), decide_eq_true ho, if_pos rfl, ceq_nI (by omega) (by omega), cnt_s]
    by_cases c : o = i
    · have e1 : (lS S).getD o 0 = qi := by have z := ho'; rw [c, hi] at z; rw [c]; exact (Option.some.inj z).symm
      rw [decide_eq_true c, if_pos rfl, obs, if_neg (by decide), obs, obs, obs, nI_1, e1, decide_eq_false (Nat.lt_irrefl _), if_neg (by decide), show ∀ a, nI a + 0 = nI (a + 0) from fun a => nI_add a 0]; rfl
    · rw [decide_eq_false c, if_neg (by decide), R_early h mi hs ho' hi c, obs, obs]
      cases decide (tq N S st ((lS S).getD o 0) < tq N S st qi) with
      | true => rw [if_pos rfl, if_pos rfl, obs, obs, obs, nI_1, nI_1]
      | false => rw [if_neg (by decide), if_neg (by decide), obs, obs, obs, nI_1, show ∀ a, nI a + 0 = nI (a + 0) from fun a => nI_add a 0]; rfl) (by
    intro y _
    refine ⟨_, ?_, rfl⟩
    show f12_message_L2 m ν (nI i) _ (nI (lS S).length) = _
    unfold f12_message_L2
    rw [h.len, obs, clt_nI (by omega) (by omega), decide_eq_false (by omega), if_neg (by decide)]) (lS S).length 0 1000000 () (by omega) (by omega) (by omega) trivial
  rw [rank_eq mi nw hs nd.1 nd.2.1 (by omega)] at e
  exact e
theorem MS.mc {c q : Nat} (h : MS N m B ν0 ν S) (hi : (lS S)[i]? = some q) (hc : c < 10) : f12_msg m (nI i) (nI c) ν = some (mcol N S c q) := by
  unfold mcol
  have : c = 0 ∨ c = 1 ∨ c = 2 ∨ c = 3 ∨ c = 4 ∨ c = 5 ∨ c = 6 ∨ c = 7 ∨ c = 8 ∨ c = 9 := by omega
  rcases this with rfl | rfl | rfl | rfl | rfl | rfl | rfl | rfl | rfl | rfl
  · exact h.m0 hi
  · exact h.m1 hi
  · exact h.m2 hi
  · exact h.m3 hi
  · exact h.m4 hi
  · exact h.m5 hi
  · exact h.m6 hi
  · exact h.m7 hi
  · exact h.m8 hi
  · exact h.m9 hi
theorem R_message (h0 : M0 N m 0 ν S) (mi : MI N st S) (hs : st + 3 < 2 ^ 31) : ∃ r, f12_message m k c ν = some (r, sF ν 1244 m 0) ∧ MSG N S st k c r := by
  have h := h0.b0
  have nw := h.nw
  have nd := h.1.2.2.2.2.2.2.2.2.2.2.2
  have ll := h.ll
  unfold f12_message
  rw [show wF ν 1244 m 0 = some (sF ν 1244 m 0) from rfl, obs]
  generalize sF ν 1244 m 0 = ν1 at h ⊢
  rw [h.len, obs, isIn0 (by omega), obs, obs, isIn9, obs]
  have no : ∀ {k' c' : Nat} {r'}, MSGP N S st k' c' r' → k' < (lS S).length := by
    intro k' c' r' ⟨_, t, t1, t2, t3, _⟩
    have e1 := rank_eq mi nw hs nd.1 nd.2.1 (Nat.le_refl 144)
    have e2 := cnt_le (p := fun o => decide (tq N S st ((lS S).getD o 0) < 144)) (lS S).length
    have := cnt_mono (p := mp N S st) (a := t + 1) (144 - (t + 1))
    rw [show t + 1 + (144 - (t + 1)) = 144 by omega, cnt_s, if_pos t2] at this
    omega
  cases c1 : (!(clt k 0) && clt k (nI (lS S).length)) with
  | false =>
    refine ⟨-1, by rw [if_pos (by decide), obs, if_pos rfl], Or.inr ⟨?_, rfl⟩⟩
    rintro ⟨k', c', r', a1, rfl, rfl, h4⟩
    have := no h4
    rw [show (0 : Int32) = nI 0 from rfl, clt_nI (by omega) (by omega), clt_nI (by omega) (by omega), decide_eq_false (by omega), decide_eq_true this] at c1
    exact absurd c1 (by decide)
  | true =>
    rw [if_neg (by decide), obs]
    rw [Bool.and_eq_true, Bool.not_eq_true'] at c1
    obtain ⟨k', hk, rfl⟩ := rI_of c1.1 c1.2 (by omega)
    rcases rng10 (c := c) with ⟨c', hc, rfl⟩ | ⟨hc, hc2⟩
    · rw [show (!(clt (nI c') 0) && clt (nI c') (nI 10)) = true by
        rw [show (0 : Int32) = nI 0 from rfl, clt_nI (by omega) (by omega), clt_nI (by omega) (by omega), decide_eq_false (by omega), decide_eq_true hc]; rfl, if_neg (by decide)]
      have key := lpX (body := fun s => f12_message_L1 m (nI k') (nI c') ν1 s) (fun i (_ : Unit) => nI i) (fun i _ => ∀ j q, j < i → (lS S)[j]? = some q → cnt (mp N S st) (tq N S st q) ≠ k') (lS S).length (fun a => ∃ r, a = (r, ν1) ∧ MSGP N S st k' c' r) (fun _ => ∀ q, q ∈ lS S → cnt (mp N S st) (tq N S st q) ≠ k') (by
        intro i y hi hn
        have hi' : (lS S)[i]? = some (lS S)[i] := List.getElem?_eq_getElem hi
        obtain ⟨i84, i2, i3⟩ := h.lk84 hi'
        obtain ⟨z1, z2, z3, _⟩ := tq_of mi nw i2 ((mi _ i2).1.trans i3) hs
        have bd := cnt_le (p := mp N S st) (tq N S st (lS S)[i])
        have start : f12_message_L1 m (nI k') (nI c') ν1 (nI i) = if cnt (mp N S st) (tq N S st (lS S)[i]) = k' then some (.inr (.inl (mcol N S c' (lS S)[i], ν1))) else some (.inl (nI (i + 1))) := by
          unfold f12_message_L1
          rw [h.len, obs, clt_nI (by omega) (by omega), decide_eq_true hi, if_pos rfl, R_msgL2 h mi hs hi', ozb2, ceq_nI (by omega) (by omega)]
          by_cases c2 : cnt (mp N S st) (tq N S st (lS S)[i]) = k'
          · rw [decide_eq_true c2, if_pos rfl, if_pos c2, h.mc hi' hc, obs]
          · rw [decide_eq_false c2, if_neg (by decide), if_neg c2, obs, nI_1]
        by_cases c2 : cnt (mp N S st) (tq N S st (lS S)[i]) = k'
        · rw [if_pos c2] at start
          exact Or.inr ⟨_, start, _, rfl, hc, _, z1, z2, c2, by rw [z3]⟩
        · rw [if_neg c2] at start
          refine Or.inl ⟨(), start, fun j q hj hq => ?_⟩
          by_cases c3 : j = i
          · subst c3
            rw [hi'] at hq
            rw [← Option.some.inj hq]; exact c2
          · exact hn j q (by omega) hq) (by
        intro y hn
        refine ⟨nI (lS S).length, ?_, fun q hq => ?_⟩
        · show f12_message_L1 m (nI k') (nI c') ν1 (nI (lS S).length) = _
          unfold f12_message_L1
          rw [h.len, obs, clt_nI (by omega) (by omega), decide_eq_false (by omega), if_neg (by decide)]
        · obtain ⟨j, hj, e⟩ := List.mem_iff_getElem.mp hq
          exact hn j q hj (by rw [List.getElem?_eq_getElem hj, e])) (lS S).length 0 1000000 () (by omega) (by omega) (by omega) (fun j q hj => absurd hj (by omega))
      rcases key with ⟨a, e, r, rfl, hr⟩ | ⟨r, e, hr⟩
      · exact ⟨r, by rw [show (0 : Int32) = nI 0 from rfl, e, obs]; rfl, Or.inl ⟨k', c', by omega, rfl, rfl, hr⟩⟩
      · refine ⟨-1, by rw [show (0 : Int32) = nI 0 from rfl, e, obs]; rfl, Or.inr ⟨?_, rfl⟩⟩
        rintro ⟨k2, c2, r', a1, a2, a3, _, t, t1, t2, t3, _⟩
        have ek := nI_inj (by omega) a1 a2
        obtain ⟨z1, z2, z3⟩ := mp_of mi nw t1 t2 hs
        refine hr (mq N st t) ((nd.2.1 _).mpr ⟨z1, (mi _ z1).1.symm.trans z2⟩) ?_
        rw [z3]; omega
    · rw [hc2, if_pos (by decide)]
      refine ⟨-1, rfl, Or.inr ⟨?_, rfl⟩⟩
      rintro ⟨k2, c2, r', _, _, rfl, h4⟩
      have := hc c2 h4.1
      rw [ceq_rf] at this
      exact absurd this (by decide)
end zJ2
