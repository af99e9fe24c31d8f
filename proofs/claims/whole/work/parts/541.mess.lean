/-! MESSAGES BY THEIR ORDER, the reference; what is asked of a range -/
theorem cnt_list (p : Nat → Bool) (l : List Nat) : ∀ n, n ≤ l.length → cnt (fun o => p (l.getD o 0)) n = ((l.take n).filter p).length
  | 0, _ => rfl
  | n + 1, h => by
    have ih := cnt_list p l n (by omega)
    have e : l.take (n + 1) = l.take n ++ [l.getD n 0] := by
      rw [List.take_add_one, List.getD_eq_getElem?_getD, List.getElem?_eq_getElem (by omega)]; rfl
    rw [cnt_s, ih, e, List.filter_append, List.length_append]
    cases c : p (l.getD n 0) with
    | true => rw [if_pos rfl]; simp only [List.filter_cons, c, List.filter_nil, ↓reduceIte, List.length_cons, List.length_nil]
    | false => rw [if_neg (by decide)]; simp only [List.filter_cons, c, List.filter_nil, Bool.false_eq_true, ↓reduceIte, List.length_nil, Nat.add_zero]
theorem cnt_mono {p : Nat → Bool} {a : Nat} : ∀ d, cnt p a ≤ cnt p (a + d)
  | 0 => Nat.le_refl _
  | d + 1 => by
    have ih := cnt_mono (p := p) (a := a) d
    rw [show a + (d + 1) = a + d + 1 by omega, cnt_s]
    split <;> omega
theorem cnt_inj {p : Nat → Bool} {a b : Nat} (ha : p a = true) (hb : p b = true) (e : cnt p a = cnt p b) : a = b := by
  rcases Nat.lt_trichotomy a b with h | h | h
  · have := cnt_mono (p := p) (a := a + 1) (b - (a + 1))
    rw [show a + 1 + (b - (a + 1)) = b by omega, cnt_s, if_pos ha] at this
    omega
  · exact h
  · have := cnt_mono (p := p) (a := b + 1) (a - (b + 1))
    rw [show b + 1 + (a - (b + 1)) = a by omega, cnt_s, if_pos hb] at this
    omega
def tq (N : zN) (S : zS) (st q : Nat) : Nat := 48 * ((S 50 q).toNatClampNeg - st) + pl N (q / 3)
def mcol (N : zN) (S : zS) (c q : Nat) : Int32 := if c = 0 then S 50 q else if c = 1 then nI (bo N (q / 3)) else if c = 2 then nI (po N (q / 3)) else S (50 + c) q
section zJ1
variable {N : zN} {m B st a b i k n t q c o : Nat} {ν0 ν : zM} {S : zS}
theorem isIn0 {v : Int32} (hn : n < 2 ^ 31) : f12_isIn v 0 (nI n - 1) ν = some (!(clt v 0) && clt v (nI n)) := by
  rw [v12_isIn]
  cases h1 : clt v 0 with
  | true => rfl
  | false =>
    cases n with
    | zero =>
      have h2 : clt v (nI 0) = false := h1
      have h4 : clt (nI 0 - 1) v = true := by
        obtain ⟨j, hj, rfl⟩ := nI_of (of_decide_eq_false h1)
        unfold clt
        rw [decide_eq_true_iff, Int32.lt_iff_toInt_lt, nI_toInt hj]
        have : (nI 0 - 1).toInt = -1 := by decide
        omega
      rw [h2, h4]; rfl
    | succ n => rw [nI_pred, clt_le (by omega)]
theorem tq_of (mi : MI N st S) (nw : NW N) (hq : q < 6 * nL N) (h1 : S 60 q = 1) (hs : st + 3 < 2 ^ 31) : tq N S st q < 144 ∧ mp N S st (tq N S st q) = true ∧ mq N st (tq N S st q) = q ∧ ∃ a, S 50 q = nI a ∧ st ≤ a ∧ a < st + 3 ∧ tq N S st q = 48 * (a - st) + (6 * bo N (q / 3) + po N (q / 3)) := by
  obtain ⟨_, a, ea, ha, hb, hm⟩ := (mi q hq).2.2 h1
  have he : q / 3 < 2 * nL N := by omega
  have t3 := nw.t3 (l := q / 3 / 2) (by omega)
  have b8 := nw.bo_8 he
  have p6 := nw.po_6 he
  have et : tq N S st q = 48 * (a - st) + (6 * bo N (q / 3) + po N (q / 3)) := by unfold tq pl; rw [ea, nI_clamp (by omega)]
  have e1 : tq N S st q % 48 / 6 = bo N (q / 3) := by omega
  have e2 : tq N S st q % 6 = po N (q / 3) := by omega
  have e3 : tq N S st q / 48 = a - st := by omega
  have em : mq N st (tq N S st q) = q := by
    unfold mq slot
    rw [e1, e2, e3, nw.eo_e he]
    omega
  refine ⟨by omega, ?_, em, a, ea, ha, by omega, et⟩
  unfold mp
  rw [em, e1, e2, decide_eq_true ⟨nw.bo_b he, nw.po_p he⟩, h1]; rfl
theorem mp_of (mi : MI N st S) (nw : NW N) (ht : t < 144) (h : mp N S st t = true) (hs : st + 3 < 2 ^ 31) : mq N st t < 6 * nL N ∧ S 60 (mq N st t) = 1 ∧ tq N S st (mq N st t) = t := by
  unfold mp at h
  rw [Bool.and_eq_true] at h
  have h1 := of_decide_eq_true h.1
  have h2 := ceq_of h.2
  have he := nw.eo_l h1.1 h1.2
  have hd : mq N st t / 3 = eo N (t % 48 / 6) (t % 6) := by unfold mq slot; omega
  have hq : mq N st t < 6 * nL N := by omega
  refine ⟨hq, h2, ?_⟩
  obtain ⟨_, a, ea, ha, hb, hm⟩ := (mi _ hq).2.2 h2
  have t3 := nw.t3 (l := mq N st t / 3 / 2) (by omega)
  have hm2 : mq N st t % 3 = (st + t / 48) % 3 := by unfold mq slot; omega
  unfold tq
  rw [ea, nI_clamp (by omega), hd, nw.pl_eo h1.1 h1.2]
  omega
/-- how many are ahead of a place -/
theorem rank_eq {l : List Nat} (mi : MI N st S) (nw : NW N) (hs : st + 3 < 2 ^ 31) (hn : l.Nodup) (hl : ∀ q, q ∈ l ↔ q < 6 * nL N ∧ S 61 q = 1) (ht : t ≤ 144) : cnt (fun o => decide (tq N S st (l.getD o 0) < t)) l.length = cnt (mp N S st) t := by
  rw [cnt_list (fun q => decide (tq N S st q < t)) l l.length (Nat.le_refl _), List.take_length]
  have e : ((l.filter (fun q => decide (tq N S st q < t))).map (tq N S st)).length = cnt (mp N S st) t := by
    refine len_cnt _ t _ ?_ (fun y => ?_)
    · unfold List.Nodup
      rw [List.pairwise_map]
      refine List.Pairwise.imp_of_mem ?_ (hn.filter _)
      intro a b h1 h2 h3 h4
      have g1 := (hl a).mp (List.mem_filter.mp h1).1
      have g2 := (hl b).mp (List.mem_filter.mp h2).1
      have k1 := (tq_of mi nw g1.1 ((mi a g1.1).1.trans g1.2) hs).2.2.1
      have k2 := (tq_of mi nw g2.1 ((mi b g2.1).1.trans g2.2) hs).2.2.1
      rw [h4, k2] at k1
      exact h3 k1.symm
    · rw [List.mem_map]
      constructor
      · rintro ⟨q, hq, rfl⟩
        obtain ⟨q1, q2⟩ := List.mem_filter.mp hq
        have g1 := (hl q).mp q1
        exact ⟨of_decide_eq_true q2, (tq_of mi nw g1.1 ((mi q g1.1).1.trans g1.2) hs).2.1⟩
      · intro ⟨y1, y2⟩
        obtain ⟨z1, z2, z3⟩ := mp_of mi nw (by omega) y2 hs
        refine ⟨mq N st y, List.mem_filter.mpr ⟨(hl _).mpr ⟨z1, (mi _ z1).1.symm.trans z2⟩, ?_⟩, z3⟩
        rw [z3]; exact decide_eq_true y1
  rw [← e, List.length_map]
theorem R_early {qo qi : Nat} (h : MS N m B ν0 ν S) (mi : MI N st S) (hs : st + 3 < 2 ^ 31) (ho : (lS S)[o]? = some qo) (hi : (lS S)[i]? = some qi) (hne : o ≠ i) : f12_isEarlier m (nI o) (nI i) ν = some (decide (tq N S st qo < tq N S st qi)) := by
  have nw := h.nw
  have nd := h.1.2.2.2.2.2.2.2.2.2.2.2.1
  obtain ⟨o84, o2, o3⟩ := h.lk84 ho
  obtain ⟨i84, i2, i3⟩ := h.lk84 hi
  obtain ⟨a1, a2, a3, a, ea, ha1, ha2, et⟩ := tq_of mi nw o2 ((mi _ o2).1.trans o3) hs
  obtain ⟨b1, b2, b3, b, eb, hb1, hb2, ft⟩ := tq_of mi nw i2 ((mi _ i2).1.trans i3) hs
  have hq : qo ≠ qi := fun e => by
    subst e
    obtain ⟨x1, x2⟩ := List.getElem?_eq_some_iff.mp ho
    obtain ⟨y1, y2⟩ := List.getElem?_eq_some_iff.mp hi
    exact hne (nodup_inj nd x1 y1 (x2.trans y2.symm))
  have ht : tq N S st qo ≠ tq N S st qi := fun e => hq (by rw [← a3, ← b3, e])
  have o8 := nw.bo_8 (e := qo / 3) (by omega)
  have i8 := nw.bo_8 (e := qi / 3) (by omega)
  have o6 := nw.po_6 (e := qo / 3) (by omega)
  have i6 := nw.po_6 (e := qi / 3) (by omega)
  unfold f12_isEarlier
  rw [h.m0 ho, obs, h.m1 ho, obs, h.m2 ho, obs, h.m0 hi, obs, h.m1 hi, obs, h.m2 hi, obs, isLess_, obs, ea, eb]
  congr 1
  unfold vlt
  rw [ceq_nI (by omega) (by omega), ceq_nI (by omega) (by omega), ceq_nI (by omega) (by omega), clt_nI (by omega) (by omega), clt_nI (by omega) (by omega), clt_nI (by omega) (by omega), clt_nI (by omega) (by omega)]
  by_cases c1 : a = b
  · rw [decide_eq_true c1, if_pos rfl]
    by_cases c2 : bo N (qo / 3) = bo N (qi / 3)
    · rw [decide_eq_true c2, if_pos rfl]
      rw [decide_eq_false (by omega), if_neg (by decide)]
      exact decide_eq_decide.mpr (by omega)
    · rw [decide_eq_false c2, if_neg (by decide)]
      exact decide_eq_decide.mpr (by omega)
  · rw [decide_eq_false c1, if_neg (by decide)]
    exact decide_eq_decide.mpr (by omega)
end zJ1
