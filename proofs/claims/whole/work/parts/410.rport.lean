/-! REFERENCE: raw rows; addresses, states of ports -/
def RW (m B : Nat) (ν0 ν : zM) (R : Nat → Int32) : Prop := (gF ν0 1244 m = nI B ∧ B ≤ 2874) ∧ FrM m B ν0 ν ∧ ∀ k, rw_ m B ν k = R k
def uR (R : Nat → Int32) (k : Nat) (v : Int32) : Nat → Int32 := fun k' => if k' = k then v else R k'
section zR0
variable {N : zN} {m B : Nat} {ν0 ν ν' : zM} {S S' : zS} {R R' : Nat → Int32} {e b l h k : Nat}
theorem RW.its (q : RW m B ν0 ν R) (hk : k < 2874) : f12_its m (nI k) ν = some (R k) := by
  unfold f12_its
  have := q.1.2
  rw [q.2.1.1, q.1.1, nI_add, rA_nI (by omega) (by omega), ← q.2.2 k, rw_lo (by omega)]; rfl
theorem RW.put (q : RW m B ν0 ν R) (hk : k < 2874) {v : Int32} : ∃ ν', f12_puts m (nI k) v ν = some ν' ∧ RW m B ν0 ν' (uR R k v) := by
  have := q.1.2
  refine ⟨sA ν (m + 24) (B + k) v, ?_, q.1, q.2.1.wA hk, fun k' => ?_⟩
  · unfold f12_puts
    rw [q.2.1.1, q.1.1, nI_add, wA_nI (by omega) (by omega)]; rfl
  · rw [rw_w _ _ _ _ _ _ (by omega), q.2.2 k']; rfl
theorem MS.rw (q : MS N m B ν0 ν S) : RW m B ν0 ν (rw_ m B ν) := ⟨⟨q.2.2.1.2.2.1, q.bb⟩, q.2.2.2, fun _ => rfl⟩
theorem MS.of (q : MS N m B ν0 ν S) (h : RW m B ν0 ν' R') (hm : MR N R' S') (so : SO N S') : MS N m B ν0 ν' S' := by
  refine ⟨?_, so, q.2.2.1, h.2.1⟩
  have : rw_ m B ν' = R' := funext h.2.2
  rw [this]; exact hm
/-- what touches the rows kept alone -/
theorem MR.k_any (q : MR N R S) (hR : ∀ k, k ≠ 3 → k < 1114 ∨ 1274 ≤ k → R' k = R k) (hS : ∀ f i, f ≠ 45 → f ≠ 44 ∨ i ≠ 3 → S' f i = S f i) (nw : NW N) (h10 : ∃ t, t ≤ 40 ∧ R' 3 = nI t ∧ (S' 46 0 ≠ 1 → S' 44 3 = nI t ∧ ∀ k, k < 4 * t → R' (1114 + k) = S' 45 k)) : MR N R' S' := by
  obtain ⟨m1, m2, m3, m4, m5, m6, m7, m8, m9, m10, mw, m11⟩ := q
  have b8 := nw.b8; have l14 := nw.l14; have h8 := nw.h8
  refine ⟨?_, ?_, ?_, ?_, ?_, ?_, ?_, ?_, ?_, h10, ⟨fun k hk => by rw [hR _ (by omega) (by omega), hS _ _ (by omega) (by omega)]; exact mw.1 k hk, fun b hb => by rw [hR _ (by omega) (by omega), hS _ _ (by omega) (by omega)]; exact mw.2 b hb⟩, ?_⟩
  · intro e k he hk hh
    have := nw.pl_48 he
    rw [hS 10 _ (by omega) (by omega)] at hh
    rw [hR _ (by omega) (by omega), hS _ _ (by omega) (by omega)]; exact m1 e k he hk hh
  · intro e k he h1 h2; rw [hS _ _ (by omega) (by omega)]; exact m2 e k he h1 h2
  · intro b k hb hk hc
    rw [hS 32 _ (by omega) (by omega)] at hc
    rw [hR _ (by omega) (by omega), hS _ _ (by omega) (by omega)]; exact m3 b k hb hk hc
  · intro b hb; rw [hS _ _ (by omega) (by omega), hS _ _ (by omega) (by omega)]; exact m4 b hb
  · intro l hl; rw [hS _ _ (by omega) (by omega), hR _ (by omega) (by omega)]; exact m5 l hl
  · intro h hh; rw [hS _ _ (by omega) (by omega), hR _ (by omega) (by omega)]; exact m6 h hh
  · intro b h hb hh; rw [hS _ _ (by omega) (by omega), hS _ _ (by omega) (by omega), hR _ (by omega) (by omega), hR _ (by omega) (by omega)]; exact m7 b h hb hh
  · intro b h hb h1 h2; rw [hS _ _ (by omega) (by omega)]; exact m8 b h hb h1 h2
  · rw [hS _ _ (by omega) (by omega), hS _ _ (by omega) (by omega), hR _ (by omega) (by omega), hR _ (by omega) (by omega)]; exact m9
  · exact m11.keep (hR _ (by omega) (by omega)) (fun k hk => hR _ (by omega) (by omega)) (fun c q h1 h2 _ => hS _ _ (by omega) (by omega))
def shR (i : Nat) (R : Nat → Int32) : Nat → Int32 := uR R (1114 + i) (R (1114 + i + 4))
theorem shR_f (R : Nat → Int32) : ∀ n k, pfold shR n R k = if 1114 ≤ k ∧ k < 1114 + n then R (k + 4) else R k
  | 0, k => by rw [if_neg (by omega)]; rfl
  | n + 1, k => by
    have ih := shR_f R n
    rw [pf_s]
    unfold shR uR
    show (if k = 1114 + n then pfold shR n R (1114 + n + 4) else pfold shR n R k) = _
    rw [ih, ih]
    by_cases c : k = 1114 + n
    · rw [if_pos c, if_neg (by omega), if_pos (by omega), c]
    · rw [if_neg c]
      by_cases c2 : 1114 ≤ k ∧ k < 1114 + n
      · rw [if_pos c2, if_pos (by omega)]
      · rw [if_neg c2, if_neg (by omega)]
theorem R_shift (q : RW m B ν0 ν R) : ∃ ν', zloop (fun s => f12_isState_L1 m s.1 s.2) 1000000 (0, ν) = some (nI 156, ν') ∧ RW m B ν0 ν' (pfold shR 156 R) := by
  refine lp (Q := RW m B ν0) nI shR 156 ?_ ?_ (by omega) q
  · intro i ν1 hi q1
    generalize pfold shR i R = R1 at *
    obtain ⟨ν2, e2, q2⟩ := q1.put (k := 1114 + i) (v := R1 (1114 + i + 4)) (by omega)
    refine ⟨ν2, ?_, q2⟩
    show f12_isState_L1 m (nI i) ν1 = _
    have e3 : f12_its m (nI (1114 + i + 4)) ν1 = some (R1 (1114 + i + 4)) := q1.its (by omega)
    unfold f12_isState_L1
    rw [show (156 : Int32) = nI 156 from rfl]
    simp (disch := omega) only [obs, pk_mul, nI_add, nI_1, mulR2, mulR3, mulR4, mulR6, mulR7, mulR8, mulR10, mulR12, mulR16, mulQ2, mulQ3, mulQ4, mulQ6, mulQ7, mulQ8, mulQ10, mulQ12, mulQ16, mulQ18, mulQ48, addR2, addR3, addR4, addR5, addR6, addR7, addR8, addR9, addR10, addR16, addR20, addQ4, addQ100, addQ964, addQ978, addQ986, addQ1114, addQ1274, cltR2, cltR3, cltR4, cltR6, cltR8, cltR10, cltR13, cltR14, cltR18, cltR28, cltR40, cltR62, cltR64, cltR84, cltR96, ceqR0, ceqR1, ceqR2, ceqR3, ceqR5, ceqR6, ceqR8, ceqR14, ceqR39, ceqR40, ceqR64, ceqR13, clt_nI, ceq_nI, rI_nI, rA_nI, wA_nI, rZ_nI, wZ_nI, wF, wB, wR, zand, zor, zandn, zorn, ozb2, ozb3, ozb4, decide_true, decide_false, Nat.lt_irrefl, Bool.false_eq_true, ↓reduceIte, e3, e2, hi]
  · intro ν1 q1
    show f12_isState_L1 m (nI 156) ν1 = _
    unfold f12_isState_L1
    rw [show (156 : Int32) = nI 156 from rfl]
    simp (disch := omega) only [obs, pk_mul, nI_add, nI_1, mulR2, mulR3, mulR4, mulR6, mulR7, mulR8, mulR10, mulR12, mulR16, mulQ2, mulQ3, mulQ4, mulQ6, mulQ7, mulQ8, mulQ10, mulQ12, mulQ16, mulQ18, mulQ48, addR2, addR3, addR4, addR5, addR6, addR7, addR8, addR9, addR10, addR16, addR20, addQ4, addQ100, addQ964, addQ978, addQ986, addQ1114, addQ1274, cltR2, cltR3, cltR4, cltR6, cltR8, cltR10, cltR13, cltR14, cltR18, cltR28, cltR40, cltR62, cltR64, cltR84, cltR96, ceqR0, ceqR1, ceqR2, ceqR3, ceqR5, ceqR6, ceqR8, ceqR14, ceqR39, ceqR40, ceqR64, ceqR13, clt_nI, ceq_nI, rI_nI, rA_nI, wA_nI, rZ_nI, wZ_nI, wF, wB, wR, zand, zor, zandn, zorn, ozb2, ozb3, ozb4, decide_true, decide_false, Nat.lt_irrefl, Bool.false_eq_true, ↓reduceIte]
theorem R_tail (q : RW m B ν0 ν R) {t p : Nat} (ht : t < 40) (hp : p < 48) (h3 : R 3 = nI t) (v : Int32) : ∃ ν', ((f12_its m 3 ν).bind fun t3 => (some (1114 + (4 * t3))).bind fun v_k_4 => (f12_its m 0 ν).bind fun t5 => (f12_puts m v_k_4 t5 ν).bind fun μ6 => (iDiv (nI p) 6).bind fun t7 => (f12_puts m (v_k_4 + 1) t7 μ6).bind fun μ8 => (iRem (nI p) 6).bind fun t9 => (f12_puts m (v_k_4 + 2) t9 μ8).bind fun μ10 => (f12_puts m (v_k_4 + 3) v μ10).bind fun μ11 => (f12_its m 3 μ11).bind fun t12 => (f12_puts m 3 (t12 + 1) μ11).bind fun μ13 => some μ13) = some ν' ∧ RW m B ν0 ν' (uR (uR (uR (uR (uR R (1114 + 4 * t) (R 0)) (1114 + 4 * t + 1) (nI (p / 6))) (1114 + 4 * t + 2) (nI (p % 6))) (1114 + 4 * t + 3) v) 3 (nI (t + 1))) := by
  have e0 : f12_its m 0 ν = some (R 0) := q.its (k := 0) (by omega)
  have e1 : f12_its m 3 ν = some (nI t) := (q.its (k := 3) (by omega)).trans (congrArg some h3)
  obtain ⟨ν1, a1, q1⟩ := q.put (k := 1114 + 4 * t) (v := R 0) (by omega)
  obtain ⟨ν2, a2, q2⟩ := q1.put (k := 1114 + 4 * t + 1) (v := nI (p / 6)) (by omega)
  obtain ⟨ν3, a3, q3⟩ := q2.put (k := 1114 + 4 * t + 2) (v := nI (p % 6)) (by omega)
  obtain ⟨ν4, a4, q4⟩ := q3.put (k := 1114 + 4 * t + 3) (v := v) (by omega)
  have e2 : f12_its m 3 ν4 = some (nI t) := (q4.its (k := 3) (by omega)).trans (congrArg some (by
    unfold uR
    rw [if_neg (by omega), if_neg (by omega), if_neg (by omega), if_neg (by omega)]; exact h3))
  obtain ⟨ν5, a5, q5⟩ := q4.put (k := 3) (v := nI (t + 1)) (by omega)
  refine ⟨ν5, ?_, q5⟩
  have a5' : f12_puts m 3 (nI (t + 1)) ν4 = some ν5 := a5
  simp (disch := omega) only [obs, pk_mul, nI_add, nI_1, mulR2, mulR3, mulR4, mulR6, mulR7, mulR8, mulR10, mulR12, mulR16, mulQ2, mulQ3, mulQ4, mulQ6, mulQ7, mulQ8, mulQ10, mulQ12, mulQ16, mulQ18, mulQ48, addR2, addR3, addR4, addR5, addR6, addR7, addR8, addR9, addR10, addR16, addR20, addQ4, addQ100, addQ964, addQ978, addQ986, addQ1114, addQ1274, cltR2, cltR3, cltR4, cltR6, cltR8, cltR10, cltR13, cltR14, cltR18, cltR28, cltR40, cltR62, cltR64, cltR84, cltR96, ceqR0, ceqR1, ceqR2, ceqR3, ceqR5, ceqR6, ceqR8, ceqR14, ceqR39, ceqR40, ceqR64, ceqR13, clt_nI, ceq_nI, rI_nI, rA_nI, wA_nI, rZ_nI, wZ_nI, wF, wB, wR, zand, zor, zandn, zorn, ozb2, ozb3, ozb4, decide_true, decide_false, Nat.lt_irrefl, Bool.false_eq_true, ↓reduceIte, e0, e1, iDivR6, iRemR6, a1, a2, a3, a4, e2, a5']
theorem SO.eq (h : SO N S) (h1 : ∀ i, S' 42 i = S 42 i) (h2 : ∀ i, S' 41 i = S 41 i) : SO N S' := ⟨fun b x hb hx => by rw [h1]; exact h.1 b x hb hx, fun x hx => by rw [h2]; exact h.2 x hx⟩
theorem enter_f {v : Int32} {f i : Nat} (h1 : f ≠ 1) (h2 : f ≠ 45) (h3 : f ≠ 44 ∨ i ≠ 3) : sp_enter N e v S f i = S f i := by
  have z : zu S 1 e v f i = S f i := if_neg (fun x => h1 x.1)
  unfold sp_enter
  split
  · exact z
  · rw [row_o (S := zu S 1 e v) f i (by omega)]; exact z
theorem R_enter (q : MS N m B ν0 ν S) (he : e < 2 * nL N) {v : Int32} : ∃ ν', f12_isState m (nI (pl N e)) v ν = some ν' ∧ MS N m B ν0 ν' (sp_enter N e v S) := by
  have nw := q.nw
  have hp := nw.pl_48 he
  obtain ⟨ν1, e1, q1⟩ := q.s1 he (v := v)
  obtain ⟨t, t1, t2, t3⟩ := q1.1.2.2.2.2.2.2.2.2.2.1
  have e2 : f12_its m 3 ν1 = some (nI t) := (q1.rw.its (k := 3) (by omega)).trans (congrArg some t2)
  unfold f12_isState
  rw [e1, Option.bind_some, e2, Option.bind_some]
  unfold sp_enter
  by_cases c : t = 40
  · obtain ⟨ν2, e3, q2⟩ := R_shift q1.rw
    obtain ⟨ν3, e4, q3⟩ := q2.put (k := 3) (v := 39) (by omega)
    obtain ⟨ν4, e5, q4⟩ := R_tail q3 (t := 39) (p := pl N e) (by omega) hp (by rfl) v
    have e4' : f12_puts m 3 39 ν2 = some ν3 := e4
    rw [show ceq (nI t) 40 = true from by rw [c]; decide, if_pos rfl, zb_lp e3, e4', Option.bind_some, Option.bind_some]
    refine ⟨ν4, e5, q1.of q4 ?_ ?_⟩
    · have g : ∀ k, k ≠ 3 → k < 1114 ∨ 1274 ≤ k → uR (uR (uR (uR (uR (uR (pfold shR 156 (rw_ m B ν1)) 3 39) (1114 + 4 * 39) (uR (pfold shR 156 (rw_ m B ν1)) 3 39 0)) (1114 + 4 * 39 + 1) (nI (pl N e / 6))) (1114 + 4 * 39 + 2) (nI (pl N e % 6))) (1114 + 4 * 39 + 3) v) 3 (nI (39 + 1)) k = rw_ m B ν1 k := by
        intro k k3 k4
        unfold uR
        rw [if_neg (by omega), if_neg (by omega), if_neg (by omega), if_neg (by omega), if_neg (by omega), if_neg (by omega), shR_f, if_neg (by omega)]
      by_cases c2 : ceq (S 46 0) 1 = true
      · rw [if_pos c2]
        exact q1.1.k_any g (fun _ _ _ _ => rfl) nw ⟨40, by omega, rfl, fun x => absurd (ceq_of c2) x⟩
      · rw [if_neg c2]
        have hne : zu S 1 e v 46 0 ≠ 1 := fun x => c2 (ceq_t x)
        obtain ⟨t4, t5⟩ := t3 hne
        have ht : tN (zu S 1 e v) = 40 := by unfold tN; rw [t4, c]; exact nI_clamp (by omega)
        refine q1.1.k_any g (fun f i h1 h2 => row_o f i (by omega)) nw ⟨40, by omega, rfl, fun _ => ⟨?_, ?_⟩⟩
        · unfold sp_row; rw [if_pos ht, if_neg (by omega), t4, c]
        · intro k hk
          unfold sp_row
          rw [if_pos ht, if_pos rfl]
          unfold uR
          rw [nw.pl_d he, nw.pl_m he, shR_f, if_neg (show ¬ (1114 ≤ 0 ∧ 0 < 1114 + 156) by omega), if_neg (show ¬ (0 : Nat) = 3 by omega), if_neg (show ¬ 1114 + k = 3 by omega), if_neg (show ¬ 1114 + k = 3 by omega)]
          by_cases k1 : k < 156
          · rw [if_pos k1, if_neg (by omega), if_neg (by omega), if_neg (by omega), if_neg (by omega), shR_f, if_pos (by omega), ← t5 (k + 4) (by omega)]; rfl
          · rw [if_neg k1]
            have hk4 : k = 156 ∨ k = 157 ∨ k = 158 ∨ k = 159 := by omega
            rcases hk4 with rfl | rfl | rfl | rfl
            · rw [if_neg (by omega), if_neg (by omega), if_neg (by omega), if_pos (by omega), if_pos rfl]
              exact q1.1.2.2.2.2.2.2.2.2.1.1
            · rw [if_neg (by omega), if_neg (by omega), if_pos (by omega), if_neg (by omega), if_pos rfl]
            · rw [if_neg (by omega), if_pos (by omega), if_neg (by omega), if_neg (by omega), if_pos rfl]
            · rw [if_pos (by omega), if_neg (by omega), if_neg (by omega), if_neg (by omega), if_pos rfl]
    · exact q.2.1.eq (fun i => enter_f (v := v) (by omega) (by omega) (by omega)) (fun i => enter_f (v := v) (by omega) (by omega) (by omega))
  · obtain ⟨ν4, e5, q4⟩ := R_tail q1.rw (t := t) (p := pl N e) (by omega) hp t2 v
    rw [show ceq (nI t) 40 = false from by rw [ceqR40 (by omega)]; exact decide_eq_false c, if_neg (by decide), Option.bind_some]
    refine ⟨ν4, e5, q1.of q4 ?_ ?_⟩
    · have g : ∀ k, k ≠ 3 → k < 1114 ∨ 1274 ≤ k → uR (uR (uR (uR (uR (rw_ m B ν1) (1114 + 4 * t) (rw_ m B ν1 0)) (1114 + 4 * t + 1) (nI (pl N e / 6))) (1114 + 4 * t + 2) (nI (pl N e % 6))) (1114 + 4 * t + 3) v) 3 (nI (t + 1)) k = rw_ m B ν1 k := by
        intro k k3 k4
        unfold uR
        rw [if_neg (by omega), if_neg (by omega), if_neg (by omega), if_neg (by omega), if_neg (by omega)]
      by_cases c2 : ceq (S 46 0) 1 = true
      · rw [if_pos c2]
        exact q1.1.k_any g (fun _ _ _ _ => rfl) nw ⟨t + 1, by omega, rfl, fun x => absurd (ceq_of c2) x⟩
      · rw [if_neg c2]
        have hne : zu S 1 e v 46 0 ≠ 1 := fun x => c2 (ceq_t x)
        obtain ⟨t4, t5⟩ := t3 hne
        have ht : tN (zu S 1 e v) = t := by unfold tN; rw [t4]; exact nI_clamp (by omega)
        refine q1.1.k_any g (fun f i h1 h2 => row_o f i (by omega)) nw ⟨t + 1, by omega, rfl, fun _ => ⟨?_, ?_⟩⟩
        · unfold sp_row; rw [ht, if_neg c, if_neg (by omega), if_pos ⟨rfl, rfl⟩]
        · intro k hk
          unfold sp_row
          rw [ht, if_neg c, if_pos rfl]
          unfold uR
          rw [nw.pl_d he, nw.pl_m he, if_neg (show ¬ 1114 + k = 3 by omega)]
          by_cases k1 : k < 4 * t
          · rw [if_neg (by omega), if_neg (by omega), if_neg (by omega), if_neg (by omega), if_neg (by omega), if_neg (by omega), if_neg (by omega), if_neg (by omega), t5 k k1]
          · have hk4 : k = 4 * t ∨ k = 4 * t + 1 ∨ k = 4 * t + 2 ∨ k = 4 * t + 3 := by omega
            rcases hk4 with rfl | rfl | rfl | rfl
            · rw [if_neg (by omega), if_neg (by omega), if_neg (by omega), if_pos (by omega), if_pos rfl]
              exact q1.1.2.2.2.2.2.2.2.2.1.1
            · rw [if_neg (by omega), if_neg (by omega), if_pos (by omega), if_neg (by omega), if_pos rfl]
            · rw [if_neg (by omega), if_pos (by omega), if_neg (by omega), if_neg (by omega), if_pos rfl]
            · rw [if_pos (by omega), if_neg (by omega), if_neg (by omega), if_neg (by omega), if_pos rfl]
    · exact q.2.1.eq (fun i => enter_f (v := v) (by omega) (by omega) (by omega)) (fun i => enter_f (v := v) (by omega) (by omega) (by omega))
end zR0
