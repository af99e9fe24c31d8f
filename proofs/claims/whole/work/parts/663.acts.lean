/-! ACTS, both: move, run, undo -/
section zL3
variable {N : zN} {x m w s B st top n k i f c p j b l t e P : Nat} {μ0 μ μ' μ1 ν0 ν ν' ν1 M : zM} {S S' S1 X : zS} {v : Int32}
theorem INV.h41 (hI : INV N st S) (c : ∀ f i, f ≠ 41 → S' f i = S f i) : INV N st S' := by
  obtain ⟨⟨sv, dn, br⟩, mi, ad⟩ := hI
  have u : ∀ e, up N S' e = up N S e := fun e => up_of (fun i => c _ _ (by omega)) (fun i => c _ _ (by omega))
  refine ⟨⟨fun i => ?_, fun e he hu k hk => ?_, fun a ha hx => ?_⟩, fun q hq => ?_, fun a h p ha hh hp hx => ?_⟩
  · rw [c 2 i (by omega), c 3 i (by omega), c 27 i (by omega), c 10 i (by omega), c 16 i (by omega)]
    exact sv i
  · rw [c k e (by omega)]
    rw [u] at hu
    exact dn e he hu k hk
  · rw [c 20 a (by omega)] at hx
    exact BR.keep2 (br a ha hx) (fun f p hf hp => c _ _ (by omega)) (fun f hf => c _ _ (by omega)) (fun p hp => u _)
  · obtain ⟨x1, x2, x3⟩ := mi q hq
    rw [c 60 q (by omega), c 61 q (by omega), u, c 50 q (by omega)]
    exact ⟨x1, x2, x3⟩
  · rw [c 42 _ (by omega)] at hx
    rw [u]; exact ad a h p ha hh hp hx
theorem run_L (q : MS N m 0 ν ν S) (hI : INV N st S) (h0 : S 44 0 = nI st) (hs : st + 1000 < 2 ^ 30) (hn : n ≤ 400) : ∃ ν', zloop (fun s => f12_run_L1 m (nI n) s.1 s.2) 1000000 (0, ν) = some (nI n, ν') ∧ MS N m 0 ν ν' (stp N st n S) := by
  have nw := q.nw
  obtain ⟨r, e1, h1⟩ := zloop_up (body := fun s => f12_run_L1 m (nI n) s.1 s.2) (fun i (ν : zM) => (nI i, ν)) (fun i ν1 => MS N m 0 ν ν1 (stp N st i S)) n (fun r => ∃ ν', r = (nI n, ν') ∧ MS N m 0 ν ν' (stp N st n S)) (by
    intro i ν1 hi q1
    have ii := stp_i nw hI i
    obtain ⟨ν2, e2, q2⟩ := R_steps q1 (stp_0 h0 i) (by omega) ii.1 ii.2.1
    refine ⟨ν2, ?_, q2⟩
    show f12_run_L1 m (nI n) (nI i) ν1 = _
    unfold f12_run_L1
    rw [clt_nI (by omega) (by omega), decide_eq_true hi, if_pos rfl, e2, obs, obs, nI_1]) (by
    intro ν1 q1
    refine ⟨(nI n, ν1), ?_, ν1, rfl, q1⟩
    show f12_run_L1 m (nI n) (nI n) ν1 = _
    unfold f12_run_L1
    rw [clt_nI (by omega) (by omega), decide_eq_false (by omega), if_neg (by decide)]) n 0 1000000 ν (by omega) (by omega) (by omega) q
  obtain ⟨ν', rfl, h2⟩ := h1
  exact ⟨ν', e1, h2⟩
theorem stp_T0 (nw : NW N) (h : T0 N S) : T0 N (stp N st n S) := fun b hb => by rw [stp_k nw (by omega)]; exact h b hb
theorem JJ.steps (h : JJ N S st w x m top μ ν) (cs : CS N (x + 51) w μ μ' (stp N st n S)) (ms : MS N m 0 ν ν' (stp N st n S)) (hn : st + n ≤ 9999) : JJ N (stp N st n S) (st + n) w x m top μ' ν' :=
  h.act cs ms (stp_i h.1.nw h.1.inv n) (stp_0 h.1.s0 n) hn (stp_T0 h.1.nw h.1.t0) (by rw [stp_k h.1.nw (by omega)]; exact h.1.bg)
theorem q_run (h : JR x m top μ ν) (a : Int32) : ∃ r b μ' ν', f11_run x top a μ = some (r, b, μ') ∧ f12_run m a ν = some (r, ν') ∧ JR x m (topN b top) μ' ν' := by
  obtain ⟨N, S, st, w, h⟩ := h
  have nw := h.1.nw
  have s9 := h.1.st9
  have h1 := h.b1
  have q := h.b0
  unfold f11_run f12_run
  rw [show wF ν 1244 m 0 = some (sF ν 1244 m 0) from rfl, obs]
  generalize sF ν 1244 m 0 = ν1 at h1 q ⊢
  obtain ⟨μr, νr, u1, u2, u3⟩ := rf_int (k := 2) h1 (by omega)
  have ref : ∃ r b μ' ν', (some (-1, false, μr) : Option (Int32 × Bool × zM)) = some (r, b, μ') ∧ (some (-1, νr) : Option (Int32 × zM)) = some (r, ν') ∧ JR x m (topN b top) μ' ν' := ⟨_, false, _, _, rfl, rfl, u3⟩
  have i0 : f12_its m 0 ν1 = some (S 44 0) := (q.its (k := 0) (by omega)).trans (congrArg some q.1.2.2.2.2.2.2.2.2.1.1)
  rw [show (2 : Int32) = nI 2 from rfl, u1, u2, show f12_isIn a 1 200 ν1 = some (!(clt a 1) && !(clt 200 a)) from rfl, i0, h.1.s0, h.1.wr]
  simp only [obs, ozb2]
  rw [h1.2.1.1, h.1.cs.c_step, h.1.s0]
  cases c1 : clt a 1 with
  | true =>
    rw [if_pos rfl]
    cases gB ν1 1246 m <;> exact ref
  | false =>
    cases c2 : clt 200 a with
    | true =>
      rw [if_neg (by decide), if_pos rfl]
      cases gB ν1 1246 m <;> exact ref
    | false =>
      rw [if_neg (by decide), if_neg (by decide)]
      cases ct : gB ν1 1246 m with
      | false => exact ref
      | true =>
        simp only [Bool.not_true, Bool.not_false, Bool.and_self, Bool.false_eq_true, ↓reduceIte, obs]
        have c0 : clt a 0 = false := by
          cases z : clt a 0 with
          | false => rfl
          | true =>
            have a1 : a < 0 := of_decide_eq_true z
            have a2 : ¬ a < 1 := of_decide_eq_false c1
            exact absurd (Int32.lt_trans a1 (by decide)) a2
        have c3 : clt a (nI 201) = true := by
          rw [← clt_le (i := a) (n := 200) (by omega)]
          show (!clt 200 a) = true
          rw [c2]; rfl
        obtain ⟨n, hn, rfl⟩ := rI_of c0 c3 (by omega)
        rw [nI_add, show (9999 : Int32) = nI 9999 from rfl, clt_nI (by omega) (by omega)]
        by_cases c4 : 9999 < st + n
        · rw [decide_eq_true c4]
          exact ref
        · rw [decide_eq_false c4]
          simp only [Bool.false_eq_true, ↓reduceIte]
          obtain ⟨b, μ2, ν2, e3, e4, hJ, hb⟩ := kp_both h1
          obtain ⟨μ3, e5, c5⟩ := C_steps hJ.1.cs (n := n) (by omega) hJ.1.s0 (by omega)
          obtain ⟨ν3, e6, q6⟩ := run_L (n := n) (hJ.ms hb) hJ.1.inv hJ.1.s0 (by omega) (by omega)
          have hK := hJ.steps (n := n) c5 q6 (by omega)
          have j0 : f12_its m 0 ν3 = some (stp N st n S 44 0) := (q6.its (k := 0) (by omega)).trans (congrArg some q6.1.2.2.2.2.2.2.2.2.1.1)
          rw [e3, ozb2, e5, obs, e4, obs, e6, ozb2, j0, obs, c5.c_step]
          exact ⟨_, b, μ3, ν3, rfl, rfl, _, _, _, _, hK⟩
theorem MS.w41 (q : MS N m 0 ν0 ν S) (hh : i < nH N) (hb : b < nB N) : MS N m 0 ν0 (sA ν (m + 24) (978 + i) (nI b)) (zu S 41 i (nI b)) := by
  have nw := q.nw
  have b8 := nw.b8; have l14 := nw.l14; have h8 := nw.h8
  have rl : ∀ k, k ≠ 978 + i → rw_ m 0 (sA ν (m + 24) (978 + i) (nI b)) k = rw_ m 0 ν k := fun k hk => by
    unfold rw_
    by_cases c : k < 3000
    · rw [if_pos c, if_pos c, gA_sA, if_neg (by omega)]
    · rw [if_neg c, if_neg c]
      by_cases c2 : k < 3010
      · rw [if_pos c2, if_pos c2, gA_sA, if_neg (by omega)]
      · rw [if_neg c2, if_neg c2, gA_sA, if_neg (by omega)]
  have z : ∀ f j, f ≠ 41 → zu S 41 i (nI b) f j = S f j := fun f j hf => if_neg (fun y => hf y.1)
  have lz : lS (zu S 41 i (nI b)) = lS S := lS_eq (fun j => z _ _ (by omega)) (z _ _ (by omega))
  obtain ⟨⟨m1, m2, m3, m4, m5, m6, m7, m8, m9, m10, mw, m11⟩, so, mt, fr⟩ := q
  refine ⟨⟨fun e k he hk hx => ?_, fun e k he h1 h2 => ?_, fun b' k hb' hk hx => ?_, fun b' hb' => ?_, fun l hl => ?_, fun h hh' => ?_, fun b' h hb' hh' => ?_, fun b' h hb' h1 h2 => ?_, ?_, ?_, ?_, ?_⟩, ⟨fun b' h hb' hh' => ?_, fun h hh' => ?_⟩, mt, fr.wA (k := 978 + i) (by omega) |> fun y => by rw [Nat.zero_add] at y; exact y⟩
  · have := nw.pl_48 he
    rw [rl _ (by omega), z _ _ (by omega)]
    exact m1 e k he hk (fun y => by have := hx y; rw [z _ _ (by omega)] at this; exact this)
  · rw [z _ _ (by omega)]; exact m2 e k he h1 h2
  · rw [rl _ (by omega), z _ _ (by omega)]
    exact m3 b' k hb' hk (fun y y2 => by have := hx y y2; rw [z _ _ (by omega)] at this; exact this)
  · rw [z _ _ (by omega), z _ _ (by omega)]; exact m4 b' hb'
  · rw [rl _ (by omega), z _ _ (by omega)]; exact m5 l hl
  · by_cases c : h = i
    · subst c
      unfold rw_
      rw [if_pos (by omega), Nat.zero_add, gA_sA, if_pos ⟨rfl, rfl⟩]
      exact (if_pos ⟨rfl, rfl⟩).symm
    · rw [rl _ (by omega), m6 h hh']
      exact (if_neg (by omega)).symm
  · rw [rl _ (by omega), rl _ (by omega), z _ _ (by omega), z _ _ (by omega)]; exact m7 b' h hb' hh'
  · rw [z _ _ (by omega)]; exact m8 b' h hb' h1 h2
  · rw [rl _ (by omega), rl _ (by omega), z _ _ (by omega), z _ _ (by omega)]; exact m9
  · obtain ⟨t, t1, t2, t3⟩ := m10
    refine ⟨t, t1, by rw [rl _ (by omega)]; exact t2, fun hx => ?_⟩
    rw [z _ _ (by omega)] at hx
    obtain ⟨y1, y2⟩ := t3 hx
    exact ⟨by rw [z _ _ (by omega)]; exact y1, fun k hk => by rw [rl _ (by omega), z _ _ (by omega)]; exact y2 k hk⟩
  · exact ⟨fun k hk => by rw [rl _ (by omega), z _ _ (by omega)]; exact mw.1 k hk, fun b' hb' => by rw [rl _ (by omega), z _ _ (by omega)]; exact mw.2 b' hb'⟩
  · rw [lz]
    obtain ⟨n1, n2, n3, n4⟩ := m11
    have ll : (lS S).length ≤ 84 := by
      have := nodup_len (6 * nL N) (lS S) n1 (fun q hq => ((n2 q).mp hq).1)
      omega
    refine ⟨n1, fun q => by rw [z _ _ (by omega)]; exact n2 q, by rw [rl _ (by omega)]; exact n3, fun k q hk => ?_⟩
    have hl : k < (lS S).length := by
      obtain ⟨y, _⟩ := List.getElem?_eq_some_iff.mp hk
      exact y
    obtain ⟨o1, o2, o3, o4⟩ := n4 k q hk
    exact ⟨by rw [rl _ (by omega), z _ _ (by omega)]; exact o1, by rw [rl _ (by omega)]; exact o2, by rw [rl _ (by omega)]; exact o3, fun c h1 h2 => by rw [rl _ (by omega), z _ _ (by omega)]; exact o4 c h1 h2⟩
  · rw [z _ _ (by omega)]; exact so.1 b' h hb' hh'
  · by_cases c : h = i
    · exact ⟨b, hb, by subst c; exact if_pos ⟨rfl, rfl⟩⟩
    · obtain ⟨b', y1, y2⟩ := so.2 h hh'
      exact ⟨b', y1, (if_neg (by omega)).trans y2⟩
theorem q_move (h : JR x m top μ ν) (a c : Int32) : ∃ r b μ' ν', f11_move x top a c μ = some (r, b, μ') ∧ f12_move m a c ν = some (r, ν') ∧ JR x m (topN b top) μ' ν' := by
  obtain ⟨N, S, st, w, h⟩ := h
  have nw := h.1.nw
  have b8 := nw.b8; have h8 := nw.h8
  have h1 := h.b1
  have q := h.b0
  unfold f11_move f12_move
  rw [show wF ν 1244 m 0 = some (sF ν 1244 m 0) from rfl, obs]
  generalize sF ν 1244 m 0 = ν1 at h1 q ⊢
  obtain ⟨μr, νr, u1, u2, u3⟩ := rf_bool (k := 3) h1 (by omega)
  rw [R_isB q, R_isH q, show (3 : Int32) = nI 3 from rfl, u1, u2]
  simp only [h.1.wr, obs, ozb2]
  rw [C_isB h.1.cs, C_isH h.1.cs]
  simp only [obs]
  rcases rngC (nH N) (by omega) a with ⟨g, hg, rfl⟩ | ⟨_, e⟩
  · rcases rngC (nB N) (by omega) c with ⟨d, hd, rfl⟩ | ⟨_, e⟩
    · rw [rngT (by omega) hg, rngT (by omega) hd, addQ978, q.its (by omega), q.1.2.2.2.2.2.1 g hg, show x + 56 = x + 51 + 5 by omega, rA_nI (by omega) (by omega), h.1.cs.r_home (by omega)]
      simp only [Bool.not_true, Bool.false_eq_true, ↓reduceIte, obs]
      cases c3 : ceq (S 41 g) (nI d) with
      | true => exact ⟨_, false, _, _, rfl, rfl, u3⟩
      | false =>
        simp only [Bool.false_eq_true, ↓reduceIte]
        obtain ⟨b, μ2, ν2, e3, e4, hJ, hb⟩ := kp_both h1
        have ms := hJ.ms hb
        rw [e3, ozb2, wA_nI (by omega) (by omega), obs, e4, obs, ms.puts (by omega), obs, Nat.zero_add]
        have k1 : K46 S (zu S 41 g (nI d)) := K46.rf.z (by omega) (by omega)
        exact ⟨true, b, _, _, rfl, rfl, hJ.act2 (hJ.1.cs.w_home (by omega) ⟨d, hd, rfl⟩) (ms.w41 hg hd) (hJ.1.inv.h41 (fun f i hf => if_neg (fun y => hf y.1))) (fun b hb => (if_neg (by omega)).trans (hJ.1.t0 b hb)) k1⟩
    · rw [rngT (by omega) hg, e]
      exact ⟨_, false, _, _, rfl, rfl, u3⟩
  · rw [e]
    exact ⟨_, false, _, _, rfl, rfl, u3⟩
end zL3
