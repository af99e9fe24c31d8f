/-! REFERENCE: arrivals -/
theorem nodup_inj {l : List Nat} (nd : l.Nodup) {i j : Nat} (hi : i < l.length) (hj : j < l.length) (h : l[i] = l[j]) : i = j := by
  have hp := List.pairwise_iff_getElem.mp nd
  rcases Nat.lt_trichotomy i j with h1 | h1 | h1
  · exact absurd h (hp i j hi hj h1)
  · exact h1
  · exact absurd h.symm (hp j i hj hi h1)
section zR10
variable {N : zN} {m B : Nat} {ν0 ν ν' : zM} {S S' : zS} {R R' : Nat → Int32} {e b l h k k0 t P st : Nat}
theorem MS.len (q : MS N m B ν0 ν S) : f12_its m 2 ν = some (nI (lS S).length) := (q.its (k := 2) (by omega)).trans (congrArg some q.1.2.2.2.2.2.2.2.2.2.2.2.2.2.1)
theorem MS.stp (q : MS N m B ν0 ν S) : f12_its m 0 ν = some (S 44 0) := (q.its (k := 0) (by omega)).trans (congrArg some q.1.2.2.2.2.2.2.2.2.1.1)
theorem R_L2 (q : MS N m B ν0 ν S) (hk : (lS S)[k]? = some t) : f12_arrive_L2 m (nI P) (nI k) ν = (if (ceq (S 50 t) (S 44 0) && ceq (nI (pl N (t / 3))) (nI P)) = true then (f12_reads m (nI k) ν).bind fun μ11 => some (.inl (nI (k + 1), μ11)) else some (.inl (nI (k + 1), ν))) := by
  have h84 := q.ll
  have hlt : k < (lS S).length := by
    rw [List.getElem?_eq_some_iff] at hk
    exact hk.1
  have e0 : f12_placeOf (nI (bo N (t / 3))) (nI (po N (t / 3))) ν = some (nI (pl N (t / 3))) := pl_add _ _
  unfold f12_arrive_L2
  rw [q.len, obs, clt_nI (by omega) (by omega), decide_eq_true hlt, if_pos rfl]
  simp only [q.m0 hk, q.stp, q.m1 hk, q.m2 hk, e0, obs, zand, nI_1]
theorem R_L2e (q : MS N m B ν0 ν S) : f12_arrive_L2 m (nI P) (nI (lS S).length) ν = some (.inr (nI (lS S).length, ν)) := by
  have h84 := q.ll
  unfold f12_arrive_L2
  rw [q.len, obs, clt_nI (by omega) (by omega), decide_eq_false (by omega), if_neg (by decide)]
theorem R_in0 (q : MS N m B ν0 ν S) (hno : ∀ (k t : Nat), (lS S)[k]? = some t → (ceq (S 50 t) (S 44 0) && ceq (nI (pl N (t / 3))) (nI P)) = false) : zloop (fun s => f12_arrive_L2 m (nI P) s.1 s.2) 1000000 (0, ν) = some (nI (lS S).length, ν) := by
  have h84 := q.ll
  obtain ⟨r, e1, rfl⟩ := zloop_up (body := fun s => f12_arrive_L2 m (nI P) s.1 s.2) (fun i (_ : Unit) => (nI i, ν)) (fun _ _ => True) (lS S).length (fun r => r = (nI (lS S).length, ν)) (by
    intro i x hi _
    refine ⟨(), ?_, trivial⟩
    show f12_arrive_L2 m (nI P) (nI i) ν = _
    have hk : (lS S)[i]? = some (lS S)[i] := List.getElem?_eq_getElem hi
    rw [R_L2 q hk, hno i _ hk, if_neg (by decide)]) (by
    intro x _
    exact ⟨_, R_L2e q, rfl⟩) (lS S).length 0 1000000 () rfl (Nat.zero_le _) (by omega) trivial
  exact e1
theorem R_in1 (q : MS N m B ν0 ν S) (hk0 : (lS S)[k0]? = some t) (hyes : (ceq (S 50 t) (S 44 0) && ceq (nI (pl N (t / 3))) (nI P)) = true) (hno : ∀ (k t' : Nat), (lS S)[k]? = some t' → k ≠ k0 → (ceq (S 50 t') (S 44 0) && ceq (nI (pl N (t' / 3))) (nI P)) = false) (hbr : BR N (bo N (t / 3)) S) (hd : DN N S) (hu : up N S (t / 3) = true) : ∃ ν', zloop (fun s => f12_arrive_L2 m (nI P) s.1 s.2) 1000000 (0, ν) = some (nI (lS S).length, ν') ∧ MS N m B ν0 ν' (sp_read N (t / 3) t S) := by
  have h84 := q.ll
  have nw := q.nw
  obtain ⟨_, t6, _⟩ := q.lk84 hk0
  have he : t / 3 < 2 * nL N := by omega
  have kk := read_k (q := t) nw he hu hd
  have els := kk.ls
  have e50 : ∀ i, sp_read N (t / 3) t S 50 i = S 50 i := fun i => kk.2.2.2.2 50 i (by omega) (by omega)
  have e44 : sp_read N (t / 3) t S 44 0 = S 44 0 := kk.1 44 0 (by unfold XG; omega)
  obtain ⟨ν1, e1, q1⟩ := R_reads q hk0 hbr hd hu
  have hlt0 : k0 < (lS S).length := by
    rw [List.getElem?_eq_some_iff] at hk0
    exact hk0.1
  obtain ⟨r, e2, h3, h4⟩ := zloop_up (body := fun s => f12_arrive_L2 m (nI P) s.1 s.2) (fun i x => (nI i, x)) (fun k x => x = if k ≤ k0 then ν else ν1) (lS S).length (fun r => r.1 = nI (lS S).length ∧ r.2 = ν1) (by
    intro i x hi hx
    have hk : (lS S)[i]? = some (lS S)[i] := List.getElem?_eq_getElem hi
    by_cases c : i = k0
    · subst c
      rw [if_pos (Nat.le_refl _)] at hx
      subst hx
      rw [hk0] at hk
      refine ⟨ν1, ?_, by rw [if_neg (by omega)]⟩
      show f12_arrive_L2 m (nI P) (nI i) x = _
      rw [R_L2 q hk0, hyes, if_pos rfl, e1]; rfl
    · refine ⟨x, ?_, ?_⟩
      · show f12_arrive_L2 m (nI P) (nI i) x = _
        by_cases c2 : i ≤ k0
        · rw [if_pos c2] at hx
          subst hx
          rw [R_L2 q hk, hno i _ hk c, if_neg (by decide)]
        · rw [if_neg c2] at hx
          subst hx
          have hk1 : (lS (sp_read N (t / 3) t S))[i]? = some (lS S)[i] := by rw [els]; exact hk
          rw [R_L2 q1 hk1, e50, e44, hno i _ hk c, if_neg (by decide)]
      · rw [hx]
        by_cases c2 : i ≤ k0
        · rw [if_pos c2, if_pos (by omega)]
        · rw [if_neg c2, if_neg (by omega)]) (by
    intro x hx
    rw [if_neg (by omega)] at hx
    subst hx
    refine ⟨(nI (lS S).length, x), ?_, rfl, rfl⟩
    have := R_L2e (P := P) q1
    rw [els] at this
    exact this) (lS S).length 0 1000000 ν rfl (Nat.zero_le _) (by omega) (by rw [if_pos (Nat.zero_le _)])
  refine ⟨ν1, ?_, q1⟩
  rw [show ((0 : Int32), ν) = (nI 0, ν) from rfl, e2]
  obtain ⟨r1, r2⟩ := r
  replace h3 : r1 = nI (lS S).length := h3
  replace h4 : r2 = ν1 := h4
  rw [h3, h4]
/-- the arrivals so far -/
def AI (N : zN) (st n : Nat) (S S' : zS) : Prop := INV0 N S' ∧ only XG S S' ∧ (∀ f q, 50 ≤ f → f ≤ 63 → f ≠ 60 → S' f q = S f q) ∧ ∀ q, n ≤ pl N (q / 3) → S' 60 q = S 60 q
theorem slot_d (e a : Nat) : slot e a / 3 = e ∧ slot e a % 3 = a % 3 := by unfold slot; omega
theorem AI.step (nw : NW N) (hm : MI N st S) {n : Nat} (h : AI N st n S S') (hn : n < 6 * nB N) : AI N st (n + 1) S (sp_arrP N st n S') := by
  obtain ⟨h1, h2, h3, h4⟩ := h
  unfold sp_arrP
  by_cases c : n % 6 < nP N (n / 6)
  · rw [if_pos c]
    unfold sp_arr1
    have hb : n / 6 < nB N := by omega
    have ql := nw.eo_l hb c
    have hpl := nw.pl_eo hb c
    have sd := slot_d (eo N (n / 6) (n % 6)) st
    by_cases c2 : ceq (S' 60 (slot (eo N (n / 6) (n % 6)) st)) 1 = true
    · rw [if_pos c2]
      have e60 : S' 60 (slot (eo N (n / 6) (n % 6)) st) = S 60 (slot (eo N (n / 6) (n % 6)) st) := h4 _ (by rw [sd.1, hpl]; omega)
      have hu := ((hm (slot (eo N (n / 6) (n % 6)) st) (by unfold slot; omega)).2.2 (by rw [← e60]; exact ceq_of c2)).1
      rw [sd.1] at hu
      have hu' : up N (zu S' 60 (slot (eo N (n / 6) (n % 6)) st) 0) (eo N (n / 6) (n % 6)) = true := by
        rw [show up N (zu S' 60 (slot (eo N (n / 6) (n % 6)) st) 0) (eo N (n / 6) (n % 6)) = up N S' (eo N (n / 6) (n % 6)) from rfl, up_eq h2]; exact hu
      have hi := (h1.z60 (v := 0) (i := slot (eo N (n / 6) (n % 6)) st))
      have kk := read_k (q := slot (eo N (n / 6) (n % 6)) st) nw ql hu' hi.2.1
      refine ⟨hi.read nw ql hu', (h2.zu (by unfold XG; omega)).tr kk.1, fun f q f1 f2 f3 => ?_, fun q hq => ?_⟩
      · rw [kk.2.2.2.2 f q f1 f2]
        exact (if_neg (fun x => f3 x.1)).trans (h3 f q f1 f2 f3)
      · rw [kk.2.2.2.2 60 q (by omega) (by omega)]
        refine (if_neg (fun x => ?_)).trans (h4 q (by omega))
        rw [x.2, sd.1, hpl] at hq
        omega
    · rw [if_neg c2]
      exact ⟨h1, h2, h3, fun q hq => h4 q (by omega)⟩
  · rw [if_neg c]
    exact ⟨h1, h2, h3, fun q hq => h4 q (by omega)⟩
theorem AI.all (nw : NW N) (hi : INV0 N S) (hm : MI N st S) : ∀ n, n ≤ 6 * nB N → AI N st n S (pfold (sp_arrP N st) n S)
  | 0, _ => ⟨hi, only.rf, fun _ _ _ _ _ => rfl, fun _ _ => rfl⟩
  | n + 1, hn => (AI.all nw hi hm n (by omega)).step nw hm (by omega)
theorem R_arrP (q : MS N m B ν0 ν S') (hm : MI N st S) (hst : S 44 0 = nI st) (hs : st < 2 ^ 30) {n : Nat} (h : AI N st n S S') (hn : n < 6 * nB N) : ∃ ν', zloop (fun s => f12_arrive_L2 m (nI n) s.1 s.2) 1000000 (0, ν) = some (nI (lS S').length, ν') ∧ MS N m B ν0 ν' (sp_arrP N st n S') := by
  have nw := q.nw
  have b8 := nw.b8
  obtain ⟨h1, h2, h3, h4⟩ := h
  have s44 : S' 44 0 = nI st := (h2 44 0 (by unfold XG; omega)).trans hst
  -- which messages are for this place now
  have cond : ∀ (k t : Nat), (lS S')[k]? = some t → (ceq (S' 50 t) (S' 44 0) && ceq (nI (pl N (t / 3))) (nI n)) = decide (t % 3 = st % 3 ∧ pl N (t / 3) = n) := by
    intro k t hk
    obtain ⟨_, t6, t61⟩ := q.lk84 hk
    have he : t / 3 < 2 * nL N := by omega
    have hp := nw.pl_48 he
    have m61 : S 61 t = 1 := by rw [← h3 61 t (by omega) (by omega) (by omega)]; exact t61
    obtain ⟨i1, i2, i3⟩ := hm t t6
    obtain ⟨_, a, a1, a2, a3, a4⟩ := i3 (i1.trans m61)
    have t3 := nw.t3 (l := t / 3 / 2) (by omega)
    rw [h3 50 t (by omega) (by omega) (by omega), a1, s44, ceq_nI (by omega) (by omega), ceq_nI (by omega) (by omega)]
    rw [← Bool.decide_and]
    exact decide_eq_decide.mpr ⟨fun x => ⟨by omega, x.2⟩, fun x => ⟨by omega, x.2⟩⟩
  have nd := q.1.2.2.2.2.2.2.2.2.2.2.2.1
  have mem := q.1.2.2.2.2.2.2.2.2.2.2.2.2.1
  unfold sp_arrP
  by_cases c : n % 6 < nP N (n / 6)
  · rw [if_pos c]
    unfold sp_arr1
    have hb : n / 6 < nB N := by omega
    have ql := nw.eo_l hb c
    have hpl := nw.pl_eo hb c
    have sd := slot_d (eo N (n / 6) (n % 6)) st
    have t6 : slot (eo N (n / 6) (n % 6)) st < 6 * nL N := by unfold slot; omega
    have uniq : ∀ t, t < 6 * nL N → (t % 3 = st % 3 ∧ pl N (t / 3) = n) → t = slot (eo N (n / 6) (n % 6)) st := by
      intro t ht ⟨x1, x2⟩
      have : t / 3 = eo N (n / 6) (n % 6) := nw.pl_i (by omega) ql (by rw [x2, hpl]; omega)
      have := sd.1; have := sd.2
      omega
    have self : slot (eo N (n / 6) (n % 6)) st % 3 = st % 3 ∧ pl N (slot (eo N (n / 6) (n % 6)) st / 3) = n := ⟨sd.2, by rw [sd.1, hpl]; omega⟩
    have e60 : S' 60 (slot (eo N (n / 6) (n % 6)) st) = S 60 (slot (eo N (n / 6) (n % 6)) st) := h4 _ (by rw [sd.1, hpl]; omega)
    have e61 : S' 61 (slot (eo N (n / 6) (n % 6)) st) = S 61 (slot (eo N (n / 6) (n % 6)) st) := h3 61 _ (by omega) (by omega) (by omega)
    obtain ⟨i1, i2, i3⟩ := hm _ t6
    by_cases c2 : ceq (S' 60 (slot (eo N (n / 6) (n % 6)) st)) 1 = true
    · rw [if_pos c2]
      have m60 := ceq_of c2
      have m61 : S' 61 (slot (eo N (n / 6) (n % 6)) st) = 1 := by rw [e61, ← i1, ← e60]; exact m60
      have hin := (mem _).mpr ⟨t6, m61⟩
      obtain ⟨k0, hk0⟩ := List.mem_iff_getElem?.mp hin
      have hu := (i3 (e60.symm.trans m60)).1
      rw [sd.1] at hu
      have q1 : MS N m B ν0 ν (zu S' 60 (slot (eo N (n / 6) (n % 6)) st) 0) := q.ign (fun f i _ _ h60 _ => if_neg (fun x => h60 x.1))
      have hu' : up N (zu S' 60 (slot (eo N (n / 6) (n % 6)) st) 0) (slot (eo N (n / 6) (n % 6)) st / 3) = true := by
        rw [sd.1, show up N (zu S' 60 (slot (eo N (n / 6) (n % 6)) st) 0) (eo N (n / 6) (n % 6)) = up N S' (eo N (n / 6) (n % 6)) from rfl, up_eq h2]; exact hu
      have hi := (h1.z60 (v := 0) (i := slot (eo N (n / 6) (n % 6)) st))
      have hbr := hi.2.2 (bo N (slot (eo N (n / 6) (n % 6)) st / 3)) (nw.bo_b (by rw [sd.1]; exact ql)) (up_on hu')
      obtain ⟨ν1, e1, q2⟩ := R_in1 (P := n) q1 hk0 (by
        have := cond k0 _ hk0
        rw [decide_eq_true self] at this
        exact this) (fun k t' hk hne => by
        have := cond k t' hk
        rw [decide_eq_false (fun x => hne ?_)] at this
        · exact this
        · have ht' := uniq t' (q.lk84 hk).2.1 x
          subst ht'
          rw [List.getElem?_eq_some_iff] at hk hk0
          obtain ⟨b1, b2⟩ := hk
          obtain ⟨b3, b4⟩ := hk0
          exact nodup_inj nd b1 b3 (b2.trans b4.symm)) hbr hi.2.1 hu'
      rw [sd.1] at q2
      exact ⟨ν1, e1, q2⟩
    · rw [if_neg c2]
      refine ⟨ν, R_in0 q (fun k t hk => ?_), q⟩
      rw [cond k t hk]
      refine decide_eq_false (fun x => c2 ?_)
      have ht := uniq t (q.lk84 hk).2.1 x
      subst ht
      rw [e60, i1, ← e61, (q.lk84 hk).2.2]; rfl
  · rw [if_neg c]
    refine ⟨ν, R_in0 q (fun k t hk => ?_), q⟩
    rw [cond k t hk]
    refine decide_eq_false (fun x => c ?_)
    have t6 := (q.lk84 hk).2.1
    have he : t / 3 < 2 * nL N := by omega
    have a1 := nw.pl_d he; have a2 := nw.pl_m he; have a3 := nw.po_p he
    rw [x.2] at a1 a2
    rw [a1, a2]; exact a3
end zR10
