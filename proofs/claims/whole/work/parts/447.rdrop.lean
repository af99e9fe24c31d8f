/-! REFERENCE: messages go -/
def rowOK (N : zN) (R : Nat → Int32) (S : zS) (j q : Nat) : Prop := R (1274 + 10 * j) = S 50 q ∧ R (1274 + 10 * j + 1) = nI (bo N (q / 3)) ∧ R (1274 + 10 * j + 2) = nI (po N (q / 3)) ∧ ∀ c, 3 ≤ c → c < 10 → R (1274 + 10 * j + c) = S (50 + c) q
def cpR (n k i : Nat) (R : Nat → Int32) : Nat → Int32 := uR R (1274 + 10 * n + i) (R (1274 + 10 * k + i))
section zR11
variable {N : zN} {m B : Nat} {ν0 ν ν' : zM} {S S' : zS} {R R' : Nat → Int32} {e b l h k n t P st : Nat}
theorem cpR_f (hnk : n ≤ k) (R : Nat → Int32) : ∀ c, c ≤ 10 → ∀ j, pfold (cpR n k) c R j = if 1274 + 10 * n ≤ j ∧ j < 1274 + 10 * n + c then R (j + 10 * (k - n)) else R j
  | 0, _, j => by rw [if_neg (by omega)]; rfl
  | c + 1, hc, j => by
    have ih := cpR_f hnk R c (by omega)
    rw [pf_s]
    unfold cpR uR
    show (if j = 1274 + 10 * n + c then pfold (cpR n k) c R (1274 + 10 * k + c) else pfold (cpR n k) c R j) = _
    rw [ih, ih]
    by_cases h1 : j = 1274 + 10 * n + c
    · rw [if_pos h1, if_neg (show ¬ (1274 + 10 * n ≤ 1274 + 10 * k + c ∧ 1274 + 10 * k + c < 1274 + 10 * n + c) by omega), if_pos (by omega)]
      congr 1; omega
    · rw [if_neg h1]
      by_cases h2 : 1274 + 10 * n ≤ j ∧ j < 1274 + 10 * n + c
      · rw [if_pos h2, if_pos (by omega)]
      · rw [if_neg h2, if_neg (by omega)]
theorem R_cpy (q : RW m B ν0 ν R) (hn : n < 84) (hk : k < 84) : ∃ ν', zloop (fun s => f12_arrive_L4 m (nI n) (nI k) s.1 s.2) 1000000 (0, ν) = some (nI 10, ν') ∧ RW m B ν0 ν' (pfold (cpR n k) 10 R) := by
  refine lp (Q := RW m B ν0) nI (cpR n k) 10 ?_ ?_ (by omega) q
  · intro i ν1 hi q1
    generalize pfold (cpR n k) i R = R1 at *
    obtain ⟨ν2, e2, q2⟩ := q1.put (k := 1274 + 10 * n + i) (v := R1 (1274 + 10 * k + i)) (by omega)
    refine ⟨ν2, ?_, q2⟩
    show f12_arrive_L4 m (nI n) (nI k) (nI i) ν1 = _
    unfold f12_arrive_L4
    rw [cltR10 (by omega), decide_eq_true hi, if_pos rfl, q1.msgR hk hi, obs, msgI, e2, obs, obs, nI_1]
  · intro ν1 q1
    show f12_arrive_L4 m (nI n) (nI k) (nI 10) ν1 = _
    unfold f12_arrive_L4
    rw [cltR10 (by omega), decide_eq_false (by omega), if_neg (by decide)]
/-- the rows so far -/
def CI (N : zN) (S : zS) (ls : List Nat) (kp : Nat → Bool) (R : Nat → Int32) (k : Nat) (R' : Nat → Int32) : Prop := (∀ a, a < 1274 → R' a = R a) ∧ (∀ a, 1274 + 10 * k ≤ a → R' a = R a) ∧ ∀ (j q : Nat), ((ls.take k).filter kp)[j]? = some q → rowOK N R' S j q
theorem filt_le {ls : List Nat} {kp : Nat → Bool} (hk : k ≤ ls.length) : ((ls.take k).filter kp).length ≤ k := by
  have h1 := List.length_filter_le kp (ls.take k)
  rw [List.length_take] at h1
  omega
theorem R_cmp {ls : List Nat} {kp : Nat → Bool} {bd : Int32 × Int32 × zM → Option ((Int32 × Int32 × zM) ⊕ (Int32 × Int32 × zM))} (q : RW m B ν0 ν R) (hl : ls.length ≤ 84) (hrow : ∀ (k t : Nat), ls[k]? = some t → rowOK N R S k t)
    (hskip : ∀ (n k t : Nat) ν1 R1, ls[k]? = some t → kp t = false → RW m B ν0 ν1 R1 → R1 2 = R 2 → R1 0 = R 0 → rowOK N R1 S k t → bd (nI n, nI k, ν1) = some (.inl (nI n, nI (k + 1), ν1)))
    (hkeep : ∀ (n k t : Nat) ν1 R1, ls[k]? = some t → kp t = true → RW m B ν0 ν1 R1 → R1 2 = R 2 → R1 0 = R 0 → rowOK N R1 S k t → bd (nI n, nI k, ν1) = zb2 (zloop (fun s => f12_arrive_L4 m (nI n) (nI k) s.1 s.2) 1000000 (0, ν1)) fun _ ν2 => some (.inl (nI (n + 1), nI (k + 1), ν2)))
    (hend : ∀ (n : Nat) ν1 R1, RW m B ν0 ν1 R1 → R1 2 = R 2 → bd (nI n, nI ls.length, ν1) = some (.inr (nI n, nI ls.length, ν1))) :
    ∃ ν' R', zloop bd 1000000 (0, 0, ν) = some (nI (ls.filter kp).length, nI ls.length, ν') ∧ RW m B ν0 ν' R' ∧ CI N S ls kp R ls.length R' := by
  have key := zloop_up (body := bd) (fun k (x : Nat × zM) => (nI x.1, nI k, x.2)) (fun k x => x.1 = ((ls.take k).filter kp).length ∧ ∃ R', RW m B ν0 x.2 R' ∧ CI N S ls kp R k R') ls.length (fun r => r.1 = nI (ls.filter kp).length ∧ r.2.1 = nI ls.length ∧ ∃ R', RW m B ν0 r.2.2 R' ∧ CI N S ls kp R ls.length R') (by
    rintro i ⟨n, ν1⟩ hi ⟨h1, R1, h2, c1, c2, c3⟩
    replace h1 : n = ((ls.take i).filter kp).length := h1
    replace h2 : RW m B ν0 ν1 R1 := h2
    have hk : ls[i]? = some ls[i] := List.getElem?_eq_getElem hi
    have rk : rowOK N R1 S i ls[i] := by
      obtain ⟨a1, a2, a3, a4⟩ := hrow i _ hk
      exact ⟨by rw [c2 _ (by omega)]; exact a1, by rw [c2 _ (by omega)]; exact a2, by rw [c2 _ (by omega)]; exact a3, fun c x y => by rw [c2 _ (by omega)]; exact a4 c x y⟩
    have ht : ls.take (i + 1) = ls.take i ++ [ls[i]] := List.take_succ_eq_append_getElem hi
    have hn : n ≤ i := by rw [h1]; exact filt_le (by omega)
    cases hkp : kp ls[i] with
    | false =>
      refine ⟨(n, ν1), hskip n i _ ν1 R1 hk hkp h2 (c1 2 (by omega)) (c1 0 (by omega)) rk, ?_, R1, h2, c1, fun a ha => c2 a (by omega), ?_⟩
      · rw [ht, List.filter_append]; simp [hkp, h1]
      · rw [ht, List.filter_append]; simpa [hkp] using c3
    | true =>
      obtain ⟨ν2, e2, q2⟩ := R_cpy (n := n) (k := i) h2 (by omega) (by omega)
      have hf := cpR_f (k := i) hn R1 10 (Nat.le_refl _)
      refine ⟨(n + 1, ν2), ?_, ?_, _, q2, ?_, ?_, ?_⟩
      · show bd (nI n, nI i, ν1) = _
        rw [hkeep n i _ ν1 R1 hk hkp h2 (c1 2 (by omega)) (c1 0 (by omega)) rk, zb_lp e2]
      · rw [ht, List.filter_append]; simp [hkp, h1]
      · intro a ha; rw [hf, if_neg (by omega)]; exact c1 a ha
      · intro a ha; rw [hf, if_neg (by omega)]; exact c2 a (by omega)
      · intro j q' hj
        rw [ht, List.filter_append] at hj
        have hfl : List.filter kp [ls[i]] = [ls[i]] := by simp [hkp]
        rw [hfl] at hj
        by_cases hjn : j < n
        · rw [List.getElem?_append_left (by omega)] at hj
          obtain ⟨a1, a2, a3, a4⟩ := c3 j q' hj
          exact ⟨by rw [hf, if_neg (by omega)]; exact a1, by rw [hf, if_neg (by omega)]; exact a2, by rw [hf, if_neg (by omega)]; exact a3, fun c x y => by rw [hf, if_neg (by omega)]; exact a4 c x y⟩
        · rw [List.getElem?_append_right (by omega)] at hj
          have hj0 : j = n := by
            rw [List.getElem?_eq_some_iff] at hj
            obtain ⟨b1, _⟩ := hj
            simp at b1
            omega
          subst hj0
          rw [← h1, Nat.sub_self] at hj
          have : q' = ls[i] := by simpa using hj.symm
          subst this
          obtain ⟨a1, a2, a3, a4⟩ := rk
          refine ⟨?_, ?_, ?_, fun c x y => ?_⟩
          · rw [hf, if_pos (by omega), show 1274 + 10 * j + 10 * (i - j) = 1274 + 10 * i by omega]; exact a1
          · rw [hf, if_pos (by omega), show 1274 + 10 * j + 1 + 10 * (i - j) = 1274 + 10 * i + 1 by omega]; exact a2
          · rw [hf, if_pos (by omega), show 1274 + 10 * j + 2 + 10 * (i - j) = 1274 + 10 * i + 2 by omega]; exact a3
          · rw [hf, if_pos (by omega), show 1274 + 10 * j + c + 10 * (i - j) = 1274 + 10 * i + c by omega]; exact a4 c x y) (by
    rintro ⟨n, ν1⟩ ⟨h1, R1, h2, h3⟩
    replace h1 : n = ((ls.take ls.length).filter kp).length := h1
    rw [List.take_length] at h1
    refine ⟨(nI n, nI ls.length, ν1), hend n ν1 R1 h2 (h3.1 2 (by omega)), by rw [← h1], rfl, R1, h2, h3⟩) ls.length 0 1000000 (0, ν) rfl (Nat.zero_le _) (by omega) ⟨by simp, R, q, fun _ _ => rfl, fun _ _ => rfl, fun j q h => by simp at h⟩
  obtain ⟨⟨r1, r2, r3⟩, e1, e2, e3, R', h1, h2⟩ := key
  replace e2 : r1 = nI (ls.filter kp).length := e2
  replace e3 : r2 = nI ls.length := e3
  subst e2 e3
  exact ⟨r3, R', e1, h1, h2⟩
/-- the list behind it -/
theorem MR.drop (q : MR N R S) (nw : NW N) {kp : Nat → Bool} {S0 : zS} (hc : CI N S (lS S) kp R (lS S).length R') (h61 : ∀ i, S0 61 i = if kp i = true then S 61 i else 0) (hS : ∀ f i, f ≠ 61 → S0 f i = S f i) : MR N (uR R' 2 (nI ((lS S).filter kp).length)) (setL ((lS S).filter kp) S0) := by
  obtain ⟨m1, m2, m3, m4, m5, m6, m7, m8, m9, m10, mw, m11⟩ := q
  have b8 := nw.b8; have l14 := nw.l14; have h8 := nw.h8
  have hl : (lS S).length ≤ 84 := by
    have := nodup_len (6 * nL N) (lS S) m11.1 (fun q hq => ((m11.2.1 q).mp hq).1)
    omega
  have g : ∀ k, k ≠ 2 → k < 1274 ∨ 3000 ≤ k → uR R' 2 (nI ((lS S).filter kp).length) k = R k := by
    intro k h1 h2
    unfold uR
    rw [if_neg h1]
    rcases h2 with h2 | h2
    · exact hc.1 k h2
    · exact hc.2.1 k (by omega)
  have z : ∀ f i, f < 61 ∨ 63 < f → setL ((lS S).filter kp) S0 f i = S f i := by
    intro f i hf
    unfold setL
    rw [if_neg (by omega), if_neg (by omega)]
    exact hS f i (by omega)
  have fl := List.length_filter_le kp (lS S)
  have els : lS (setL ((lS S).filter kp) S0) = (lS S).filter kp := lS_set (by omega) (fun q hq => by
    have := ((m11.2.1 q).mp (List.mem_filter.mp hq).1).1
    omega)
  refine ⟨?_, ?_, ?_, ?_, ?_, ?_, ?_, ?_, ?_, ?_, ?_, ?_⟩
  · intro e k he hk hh
    have := nw.pl_48 he
    rw [z 10 _ (by omega)] at hh
    rw [g _ (by omega) (by omega), z _ _ (by omega)]; exact m1 e k he hk hh
  · intro e k he h1 h2; rw [z _ _ (by omega)]; exact m2 e k he h1 h2
  · intro b k hb hk hc
    rw [z 32 _ (by omega)] at hc
    rw [g _ (by omega) (by omega), z _ _ (by omega)]; exact m3 b k hb hk hc
  · intro b hb; rw [z _ _ (by omega), z _ _ (by omega)]; exact m4 b hb
  · intro l hl; rw [z _ _ (by omega), g _ (by omega) (by omega)]; exact m5 l hl
  · intro h hh; rw [z _ _ (by omega), g _ (by omega) (by omega)]; exact m6 h hh
  · intro b h hb hh; rw [z _ _ (by omega), z _ _ (by omega), g _ (by omega) (by omega), g _ (by omega) (by omega)]; exact m7 b h hb hh
  · intro b h hb h1 h2; rw [z _ _ (by omega)]; exact m8 b h hb h1 h2
  · rw [z _ _ (by omega), z _ _ (by omega), g _ (by omega) (by omega), g _ (by omega) (by omega)]; exact m9
  · obtain ⟨t, t1, t2, t3⟩ := m10
    refine ⟨t, t1, by rw [g _ (by omega) (by omega)]; exact t2, fun hb => ?_⟩
    rw [z _ _ (by omega)] at hb
    obtain ⟨t4, t5⟩ := t3 hb
    exact ⟨by rw [z _ _ (by omega)]; exact t4, fun k hk => by rw [z _ _ (by omega), g _ (by omega) (by omega)]; exact t5 k hk⟩
  · exact ⟨fun k hk => by rw [g _ (by omega) (by omega), z _ _ (by omega)]; exact mw.1 k hk, fun b hb => by rw [g _ (by omega) (by omega), z _ _ (by omega)]; exact mw.2 b hb⟩
  · rw [els]
    refine ⟨m11.1.filter kp, fun q => ?_, if_pos rfl, fun k q hk => ?_⟩
    · rw [List.mem_filter, m11.2.1 q, show setL ((lS S).filter kp) S0 61 q = S0 61 q from rfl, h61 q]
      constructor
      · rintro ⟨⟨h1, h2⟩, h3⟩
        exact ⟨h1, by rw [if_pos h3]; exact h2⟩
      · rintro ⟨h1, h2⟩
        by_cases c : kp q = true
        · rw [if_pos c] at h2; exact ⟨⟨h1, h2⟩, c⟩
        · rw [if_neg c] at h2; exact absurd h2 (by decide)
    · have hc3 := hc.2.2 k q (by rw [List.take_length]; exact hk)
      obtain ⟨a1, a2, a3, a4⟩ := hc3
      have u : ∀ a, 1274 ≤ a → uR R' 2 (nI ((lS S).filter kp).length) a = R' a := fun a ha => if_neg (by omega)
      exact ⟨by rw [u _ (by omega), z 50 _ (by omega)]; exact a1, by rw [u _ (by omega)]; exact a2, by rw [u _ (by omega)]; exact a3, fun c x y => by rw [u _ (by omega), z (50 + c) _ (by omega)]; exact a4 c x y⟩
end zR11
