/-! ACTS, both: cut, mend, stop, start, prio, turn, move -/
def K46 (S S' : zS) : Prop := S' 46 0 = S 46 0 ∧ S' 44 0 = S 44 0
section zL2
variable {N : zN} {x m w s B st top n k i f c p j b l t e P : Nat} {μ0 μ μ' μ1 ν0 ν ν' ν1 M : zM} {S S' S1 X : zS} {v : Int32}
theorem K46.rf : K46 S S := ⟨rfl, rfl⟩
theorem K46.tr (h : K46 S S1) (h2 : K46 S1 S') : K46 S S' := ⟨h2.1.trans h.1, h2.2.trans h.2⟩
theorem K46.z (h : K46 S S1) (h1 : f ≠ 46) (h2 : f ≠ 44) : K46 S (zu S1 f i v) := ⟨(if_neg (by omega)).trans h.1, (if_neg (by omega)).trans h.2⟩
theorem K46.pf {g : Nat → zS → zS} (h : ∀ k S, k < n → K46 S (g k S)) : ∀ n', n' ≤ n → ∀ {S}, K46 S (pfold g n' S)
  | 0, _, _ => K46.rf
  | n' + 1, hn, _ => (K46.pf h n' (by omega)).tr (h n' _ (by omega))
theorem K46.it {c : Prop} [Decidable c] (h1 : K46 S S1) (h2 : K46 S X) : K46 S (if c then S1 else X) := by
  split
  · exact h1
  · exact h2
theorem K46.clr : K46 S (sp_clr e v S) := ⟨rfl, rfl⟩
theorem K46.ct (nw : NW N) : K46 S (sp_ct N S) := ⟨ct_o nw (by omega) (nB N) (Nat.le_refl _), ct_o nw (by omega) (nB N) (Nat.le_refl _)⟩
theorem K46.dn : K46 S (sq_down N e S) := by
  unfold sq_down
  refine (K46.clr (e := e) (v := 0)).tr (K46.tr (S1 := sp_dm e (sp_clr e 0 S)) ?_ ?_)
  · unfold sp_dm
    exact K46.pf (n := 3) (fun k S _ => K46.rf.z (by omega) (by omega)) 3 (Nat.le_refl _)
  · unfold sp_forget
    exact K46.pf (n := 8) (fun k S _ => K46.it (K46.rf.z (by omega) (by omega)) K46.rf) 8 (Nat.le_refl _)
theorem K46.dr : K46 S (dropL l S) := ⟨rfl, rfl⟩
theorem K46.cut (nw : NW N) : K46 S (sq_cut N l S) := ⟨cut_k nw (by omega), cut_k nw (by omega)⟩
theorem K46.mend (nw : NW N) : K46 S (sq_mend N l S) := by
  unfold sq_mend
  refine K46.tr ?_ (K46.ct nw)
  refine K46.z (K46.z (K46.it ?_ ?_) (by omega) (by omega)) (by omega) (by omega)
  · exact (K46.rf.z (by omega) (by omega)).tr (K46.clr.tr K46.clr)
  · exact K46.rf.z (by omega) (by omega)
theorem K46.off (nw : NW N) : K46 S (sq_off N b S) := by
  unfold sq_off
  refine K46.tr ?_ (K46.ct nw)
  refine K46.tr ?_ (K46.pf (n := 8) (fun k S _ => K46.rf.z (by omega) (by omega)) 8 (Nat.le_refl _))
  refine K46.z ?_ (by omega) (by omega)
  refine K46.pf (n := nP N b) (fun k S _ => ?_) (nP N b) (Nat.le_refl _)
  unfold sq_off1
  exact ((K46.rf.z (by omega) (by omega)).tr (K46.dn.tr K46.dn)).tr K46.dr
theorem K46.on (nw : NW N) : K46 S (sq_on N b S) := by
  unfold sq_on
  refine K46.tr ?_ (K46.ct nw)
  refine K46.z ?_ (by omega) (by omega)
  refine K46.tr (((K46.rf.z (i := b) (v := 1) (f := 20) (by omega) (by omega)).z (i := b) (v := 0) (f := 27) (by omega) (by omega)).z (i := b) (v := 0) (f := 32) (by omega) (by omega)) ?_
  refine K46.pf (n := nP N b) (fun k S _ => ?_) (nP N b) (Nat.le_refl _)
  unfold sq_on1
  exact K46.it (K46.z (K46.clr.tr K46.clr) (by omega) (by omega)) K46.rf
theorem K46.prio (nw : NW N) : K46 S (sq_prio N b v S) := by
  unfold sq_prio
  exact K46.tr ((K46.rf.z (by omega) (by omega)).z (by omega) (by omega)) (K46.ct nw)
theorem K46.turn (nw : NW N) : K46 S (sq_turn N b S) := by
  unfold sq_turn
  exact K46.it (((K46.off nw).z (by omega) (by omega)).tr (K46.on nw)) (K46.rf.z (by omega) (by omega))
theorem JJ.ms (h : JJ N S st w x m top μ ν) (hb : gF ν 1244 m = nI 0) : MS N m 0 ν ν S := h.1.m0.ms hb (Or.inl rfl)
theorem JJ.act2 (h : JJ N S st w x m top μ ν) (cs : CS N (x + 51) w μ μ' S') (ms : MS N m 0 ν ν' S') (iv : INV N st S') (t0 : T0 N S') (k : K46 S S') : JR x m top μ' ν' := ⟨N, S', st, w, h.act cs ms iv (k.2.trans h.1.s0) h.1.st9 t0 (k.1.trans h.1.bg)⟩
theorem q_cut (h : JR x m top μ ν) (a : Int32) : ∃ r b μ' ν', f11_cut x top a μ = some (r, b, μ') ∧ f12_cut m a ν = some (r, ν') ∧ JR x m (topN b top) μ' ν' := by
  obtain ⟨N, S, st, w, h⟩ := h
  have nw := h.1.nw
  obtain ⟨μr, νr, u1, u2, u3⟩ := rf_bool (k := 3) h (by omega)
  unfold f11_cut f12_cut
  rcases whole2 h a with ⟨l, hl, rfl, e1, e2⟩ | ⟨_, e1, e2⟩
  · rw [e1, obs, e2, obs]
    cases ceq (S 40 l) 1 with
    | false =>
      rw [if_neg (by decide), if_neg (by decide), show (3 : Int32) = nI 3 from rfl, u1, u2, ozb2, ozb2]
      exact ⟨_, false, _, _, rfl, rfl, u3⟩
    | true =>
      obtain ⟨b, μ1, ν1, e3, e4, hJ, hb⟩ := kp_both h
      obtain ⟨μ2, e5, c5⟩ := C_cut hJ.1.cs hl
      obtain ⟨⟨ν2, e6, q6⟩, iv6, t6⟩ := R_cut (hJ.ms hb) hJ.1.inv hJ.1.t0 hl
      rw [if_pos rfl, if_pos rfl, e3, ozb2, e5, obs, e4, obs, e6, obs]
      exact ⟨true, b, μ2, ν2, rfl, rfl, hJ.act2 c5 q6 iv6 t6 (K46.cut nw)⟩
  · rw [e1, obs, e2, obs, if_neg (by decide), if_neg (by decide), show (3 : Int32) = nI 3 from rfl, u1, u2, ozb2, ozb2]
    exact ⟨_, false, _, _, rfl, rfl, u3⟩
theorem q_mend (h : JR x m top μ ν) (a : Int32) : ∃ r b μ' ν', f11_mend x top a μ = some (r, b, μ') ∧ f12_mend m a ν = some (r, ν') ∧ JR x m (topN b top) μ' ν' := by
  obtain ⟨N, S, st, w, h⟩ := h
  have nw := h.1.nw
  have l14 := nw.l14
  obtain ⟨μr, νr, u1, u2, u3⟩ := rf_bool (k := 3) h (by omega)
  have il : f12_isLink m a ν = some (!(clt a 0) && clt a (nI (nL N))) := by unfold f12_isLink; rw [h.1.m0.2.2.2.1.2.1, isIn0 (by omega), obs]
  unfold f11_mend f12_mend
  rw [h.1.wr, obs, C_isL h.1.cs, obs, il, obs, obs, show (3 : Int32) = nI 3 from rfl, u1, u2, ozb2, ozb2]
  rcases whole2 h a with ⟨l, hl, rfl, e1, e2⟩ | ⟨e0, e1, e2⟩
  · rw [rngT (by omega) hl, if_pos rfl, if_neg (by decide), e2, obs, obs, show x + 55 = x + 51 + 4 by omega, rZ_nI (by omega) (by omega), obs, h.1.cs.r_whole (by omega)]
    cases ceq (S 40 l) 1 with
    | true => exact ⟨_, false, _, _, rfl, rfl, u3⟩
    | false =>
      obtain ⟨b, μ1, ν1, e3, e4, hJ, hb⟩ := kp_both h
      obtain ⟨μ2, e5, c5⟩ := C_mend hJ.1.cs hl
      obtain ⟨⟨ν2, e6, q6⟩, iv6, t6⟩ := R_mend (hJ.ms hb) hJ.1.inv hJ.1.t0 hl
      rw [if_neg (by decide), if_neg (by decide), e3, ozb2, e5, obs, e4, obs, e6, obs]
      exact ⟨true, b, μ2, ν2, rfl, rfl, hJ.act2 c5 q6 iv6 t6 (K46.mend nw)⟩
  · rw [e0, if_neg (by decide)]
    exact ⟨_, false, _, _, rfl, rfl, u3⟩
theorem q_stop (h : JR x m top μ ν) (a : Int32) : ∃ r b μ' ν', f11_stop x top a μ = some (r, b, μ') ∧ f12_stop m a ν = some (r, ν') ∧ JR x m (topN b top) μ' ν' := by
  obtain ⟨N, S, st, w, h⟩ := h
  have nw := h.1.nw
  have b8 := nw.b8
  have h1 := h.b1
  have q := h.b0
  unfold f11_stop f12_stop
  rw [show wF ν 1244 m 0 = some (sF ν 1244 m 0) from rfl, obs]
  generalize sF ν 1244 m 0 = ν1 at h1 q ⊢
  obtain ⟨μr, νr, u1, u2, u3⟩ := rf_bool (k := 3) h1 (by omega)
  rw [R_isB q, obs, obs, show (3 : Int32) = nI 3 from rfl, u1, u2, ozb2, ozb2]
  rcases C_isOn h.1.cs h.1.wr a with ⟨d, hd, rfl, e1⟩ | ⟨e0, e1⟩
  · rw [e1, obs, rngT (by omega) hd, q.on_ hd]
    simp only [Bool.not_true, Bool.false_eq_true, ↓reduceIte, obs]
    cases ceq (S 20 d) 1 with
    | false => exact ⟨_, false, _, _, rfl, rfl, u3⟩
    | true =>
      obtain ⟨b, μ2, ν2, e3, e4, hJ, hb⟩ := kp_both h1
      obtain ⟨S1, c1, ⟨ν3, e6, q6⟩, iv6, t6⟩ := R_off (hJ.ms hb) hJ.1.inv hJ.1.t0 hd
      have cs1 : CS N (x + 51) w μ2 μ2 S1 := hJ.1.cs.ig (fun f i hf => c1 f i (by unfold csF at hf; omega))
      obtain ⟨μ3, e5, c5⟩ := C_off cs1 hd
      simp only [Bool.not_true, Bool.false_eq_true, ↓reduceIte]
      rw [e3, ozb2, e5, obs, e4, obs, e6, obs]
      have k1 : K46 S S1 := ⟨c1 _ _ (by omega), c1 _ _ (by omega)⟩
      exact ⟨true, b, μ3, ν3, rfl, rfl, hJ.act2 c5 q6 iv6 t6 (k1.tr (K46.off nw))⟩
  · rw [e1, obs, e0]
    exact ⟨_, false, _, _, rfl, rfl, u3⟩
theorem q_start (h : JR x m top μ ν) (a : Int32) : ∃ r b μ' ν', f11_start x top a μ = some (r, b, μ') ∧ f12_start m a ν = some (r, ν') ∧ JR x m (topN b top) μ' ν' := by
  obtain ⟨N, S, st, w, h⟩ := h
  have nw := h.1.nw
  have b8 := nw.b8
  have h1 := h.b1
  have q := h.b0
  unfold f11_start f12_start
  rw [show wF ν 1244 m 0 = some (sF ν 1244 m 0) from rfl, obs]
  generalize sF ν 1244 m 0 = ν1 at h1 q ⊢
  obtain ⟨μr, νr, u1, u2, u3⟩ := rf_bool (k := 3) h1 (by omega)
  rw [R_isB q, obs, obs, show (3 : Int32) = nI 3 from rfl, u1, u2, ozb2, ozb2, h.1.wr, obs, C_isB h.1.cs, obs]
  rcases rngC (nB N) (by omega) a with ⟨d, hd, rfl⟩ | ⟨_, e⟩
  · rw [rngT (by omega) hd, q.on_ hd, rI_nI (by omega) (by omega), obs, show x + 64 + 3 * d = x + 51 + 13 + 3 * d by omega, h.1.cs.r_on (by omega)]
    simp only [Bool.not_true, Bool.false_eq_true, ↓reduceIte, obs]
    cases o20 : ceq (S 20 d) 1 with
    | true => exact ⟨_, false, _, _, rfl, rfl, u3⟩
    | false =>
      obtain ⟨b, μ2, ν2, e3, e4, hJ, hb⟩ := kp_both h1
      obtain ⟨S1, c1, ⟨ν3, e6, q6⟩, iv6, t6⟩ := R_on (hJ.ms hb) hJ.1.inv hJ.1.t0 hd (fun z => by rw [z] at o20; exact absurd o20 (by decide))
      have cs1 : CS N (x + 51) w μ2 μ2 S1 := hJ.1.cs.ig c1
      obtain ⟨μ3, e5, c5⟩ := C_on cs1 hd
      simp only [Bool.false_eq_true, ↓reduceIte]
      rw [e3, ozb2, e5, obs, e4, obs, e6, obs]
      have k1 : K46 S S1 := ⟨c1 _ _ (by unfold csF; omega), c1 _ _ (by unfold csF; omega)⟩
      exact ⟨true, b, μ3, ν3, rfl, rfl, hJ.act2 c5 q6 iv6 t6 (k1.tr (K46.on nw))⟩
  · rw [e]
    exact ⟨_, false, _, _, rfl, rfl, u3⟩
theorem q_prio (h : JR x m top μ ν) (a c : Int32) : ∃ r b μ' ν', f11_prio x top a c μ = some (r, b, μ') ∧ f12_prio m a c ν = some (r, ν') ∧ JR x m (topN b top) μ' ν' := by
  obtain ⟨N, S, st, w, h⟩ := h
  have nw := h.1.nw
  have b8 := nw.b8
  have h1 := h.b1
  have q := h.b0
  unfold f11_prio f12_prio
  rw [show wF ν 1244 m 0 = some (sF ν 1244 m 0) from rfl, obs]
  generalize sF ν 1244 m 0 = ν1 at h1 q ⊢
  obtain ⟨μr, νr, u1, u2, u3⟩ := rf_bool (k := 3) h1 (by omega)
  rw [R_isB q, obs, obs, show (3 : Int32) = nI 3 from rfl, u1, u2, ozb2, ozb2, h.1.wr, obs, C_isB h.1.cs, obs, show f12_isIn c 0 15 ν1 = some (!(clt c 0) && clt c (nI 16)) from isIn0 (n := 16) (by omega), show (16 : Int32) = nI 16 from rfl, obs]
  rcases rngC (nB N) (by omega) a with ⟨d, hd, rfl⟩ | ⟨_, e⟩
  · rw [rngT (by omega) hd, rI_nI (by omega) (by omega), obs, show x + 64 + 3 * d = x + 51 + 13 + 3 * d by omega, h.1.cs.r_prio (by omega), q.b1 hd]
    simp only [Bool.not_true, Bool.false_eq_true, ↓reduceIte, obs]
    cases c1 : clt c 0 with
    | true => exact ⟨_, false, _, _, rfl, rfl, u3⟩
    | false =>
      cases c2 : clt c (nI 16) with
      | false => exact ⟨_, false, _, _, rfl, rfl, u3⟩
      | true =>
        simp only [Bool.not_true, Bool.not_false, Bool.and_self, Bool.false_eq_true, ↓reduceIte, obs]
        cases c3 : ceq (S 21 d) c with
        | true => exact ⟨_, false, _, _, rfl, rfl, u3⟩
        | false =>
          obtain ⟨b, μ2, ν2, e3, e4, hJ, hb⟩ := kp_both h1
          obtain ⟨μ3, e5, c5⟩ := C_prio (v := c) hJ.1.cs hd
          obtain ⟨⟨ν3, ν4, e6, e7, q6⟩, iv6, t6⟩ := R_prio (v := c) (hJ.ms hb) hJ.1.inv hJ.1.t0 hd
          simp only [Bool.false_eq_true, ↓reduceIte]
          have ba : f12_bridgeAt (nI d) 1 ν2 = some (nI (4 + 12 * d + 1)) := by
            unfold f12_bridgeAt
            rw [mulQ12, addQ4, nI_1]
          rw [e3, ozb2, e5, obs, e4, obs, ba, obs, e6, obs, e7, obs]
          exact ⟨true, b, μ3, ν4, rfl, rfl, hJ.act2 c5 q6 iv6 t6 (K46.prio nw)⟩
  · rw [e]
    exact ⟨_, false, _, _, rfl, rfl, u3⟩
theorem q_turn (h : JR x m top μ ν) (a : Int32) : ∃ r b μ' ν', f11_turn x top a μ = some (r, b, μ') ∧ f12_turn m a ν = some (r, ν') ∧ JR x m (topN b top) μ' ν' := by
  obtain ⟨N, S, st, w, h⟩ := h
  have nw := h.1.nw
  have b8 := nw.b8
  have h1 := h.b1
  have q := h.b0
  unfold f11_turn f12_turn
  rw [show wF ν 1244 m 0 = some (sF ν 1244 m 0) from rfl, obs]
  generalize sF ν 1244 m 0 = ν1 at h1 q ⊢
  obtain ⟨μr, νr, u1, u2, u3⟩ := rf_int (k := 3) h1 (by omega)
  rw [R_isB q, obs, show (3 : Int32) = nI 3 from rfl, u1, u2, ozb2, ozb2, h.1.wr, obs, C_isB h.1.cs, obs]
  rcases rngC (nB N) (by omega) a with ⟨d, hd, rfl⟩ | ⟨_, e⟩
  · rw [rngT (by omega) hd, if_pos rfl, if_pos rfl]
    obtain ⟨b, μ2, ν2, e3, e4, hJ, hb⟩ := kp_both h1
    obtain ⟨μ3, ν3, S', e5, e6, c5, q6, iv6, t6, s22⟩ := turn_both hJ.1.cs (hJ.ms hb) hJ.1.inv hJ.1.t0 hd
    obtain ⟨μ4, e7, c7⟩ := C_turn hJ.1.cs hd
    have em : μ4 = μ3 := Option.some.inj (e7.symm.trans e5)
    subst em
    have kk : K46 S S' := by
      have k0 := K46.turn (N := N) (S := S) (b := d) nw
      refine ⟨?_, ?_⟩
      · rw [← c5.c_beg, c7.c_beg]; exact k0.1
      · rw [← c5.c_step, c7.c_step]; exact k0.2
    rw [e3, ozb2, e5, obs, rI_nI (by omega) (by omega), obs, show x + 64 + 3 * d = x + 51 + 13 + 3 * d by omega, e4, obs]
    have e8 : ((f12_bridgeAt (nI d) 2 ν2).bind fun t4 => (f12_of m (nI d) 2 ν2).bind fun t5 => (f12_puts m t4 (1 - t5) ν2).bind fun μ6 => ((f12_isOn m (nI d) μ6).bind fun t9 => if t9 = true then ((f12_isOff m (nI d) μ6).bind fun μ10 => (f12_isBackOn m (nI d) μ10).bind fun μ11 => some μ11) else (some μ6)).bind fun μ7 => (f12_of m (nI d) 2 μ7).bind fun t8 => some (t8, μ7)) = some (S' 22 d, ν3) := by
      have e9 := e6
      obtain ⟨t4, z1, e9⟩ := zinv e9
      obtain ⟨t5, z2, e9⟩ := zinv e9
      obtain ⟨m6, z3, e9⟩ := zinv e9
      rw [z1, obs, z2, obs, z3, obs, e9, obs, q6.b2 hd, obs]
    rw [e8]
    refine ⟨S' 22 d, b, μ4, ν3, ?_, rfl, hJ.act2 c5 q6 iv6 t6 kk⟩
    have o := c5.c_old d (by omega)
    rw [← o]
    cases gB μ4 4 (x + 51 + 13 + 3 * d) <;> rfl
  · rw [e, if_neg (by decide), if_neg (by decide)]
    exact ⟨_, false, _, _, rfl, rfl, u3⟩
end zL2
