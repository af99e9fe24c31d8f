/-! REFERENCE: arrivals, whole -/
section zR12
variable {N : zN} {m B : Nat} {ν0 ν ν' : zM} {S S' : zS} {R R' : Nat → Int32} {e b l h k n t P st : Nat}
theorem arr_60 (nw : NW N) (hi : INV0 N S) (hm : MI N st S) : ∀ n, n ≤ 6 * nB N → ∀ q, q < 6 * nL N → q % 3 = st % 3 → pl N (q / 3) < n → pfold (sp_arrP N st) n S 60 q = 0
  | 0, _, q, _, _, h => by omega
  | n + 1, hn, q, hq, h3, hp => by
    have ai := AI.all nw hi hm n (by omega)
    have ih := arr_60 nw hi hm n (by omega) q hq h3
    rw [pf_s]
    generalize pfold (sp_arrP N st) n S = S1 at *
    obtain ⟨a1, a2, a3, a4⟩ := ai
    have he : q / 3 < 2 * nL N := by omega
    unfold sp_arrP
    by_cases c : n % 6 < nP N (n / 6)
    · rw [if_pos c]
      unfold sp_arr1
      have hb : n / 6 < nB N := by omega
      have ql := nw.eo_l hb c
      have hpl := nw.pl_eo hb c
      have sd := slot_d (eo N (n / 6) (n % 6)) st
      have t6 : slot (eo N (n / 6) (n % 6)) st < 6 * nL N := by unfold slot; omega
      have e60 : S1 60 (slot (eo N (n / 6) (n % 6)) st) = S 60 (slot (eo N (n / 6) (n % 6)) st) := a4 _ (by rw [sd.1, hpl]; omega)
      obtain ⟨i1, i2, i3⟩ := hm _ t6
      have here : pl N (q / 3) = n → q = slot (eo N (n / 6) (n % 6)) st := fun hx => by
        have : q / 3 = eo N (n / 6) (n % 6) := nw.pl_i he ql (by rw [hx, hpl]; omega)
        have := sd.1; have := sd.2
        omega
      by_cases c2 : ceq (S1 60 (slot (eo N (n / 6) (n % 6)) st)) 1 = true
      · rw [if_pos c2]
        have hu := (i3 (by rw [← e60]; exact ceq_of c2)).1
        rw [sd.1] at hu
        have hu' : up N (zu S1 60 (slot (eo N (n / 6) (n % 6)) st) 0) (eo N (n / 6) (n % 6)) = true := by
          rw [show up N (zu S1 60 (slot (eo N (n / 6) (n % 6)) st) 0) (eo N (n / 6) (n % 6)) = up N S1 (eo N (n / 6) (n % 6)) from rfl, up_eq a2]; exact hu
        have hi' := (a1.z60 (v := 0) (i := slot (eo N (n / 6) (n % 6)) st))
        have kk := read_k (q := slot (eo N (n / 6) (n % 6)) st) nw ql hu' hi'.2.1
        rw [kk.2.2.2.2 60 q (by omega) (by omega)]
        show (if 60 = 60 ∧ q = slot (eo N (n / 6) (n % 6)) st then 0 else S1 60 q) = 0
        by_cases c3 : q = slot (eo N (n / 6) (n % 6)) st
        · rw [if_pos ⟨rfl, c3⟩]
        · rw [if_neg (fun x => c3 x.2)]
          exact ih (by have : pl N (q / 3) ≠ n := fun x => c3 (here x); omega)
      · rw [if_neg c2]
        by_cases c3 : pl N (q / 3) = n
        · rw [here c3]
          rcases i2 with i2 | i2
          · rw [e60]; exact i2
          · exact absurd (ceq_t (e60.trans i2)) c2
        · exact ih (by omega)
    · rw [if_neg c]
      have a5 := nw.pl_d he; have a6 := nw.pl_m he; have a7 := nw.po_p he
      refine ih ?_
      have : pl N (q / 3) ≠ n := fun x => c (by rw [x] at a5 a6; rw [a5, a6]; exact a7)
      omega
/-- behind the arrivals nothing is on its way for this step -/
def MI2 (N : zN) (st : Nat) (S : zS) : Prop := ∀ q, q < 6 * nL N → S 60 q = S 61 q ∧ (S 60 q = 0 ∨ S 60 q = 1) ∧ (S 60 q = 1 → q % 3 ≠ st % 3 ∧ up N S (q / 3) = true ∧ ∃ a, S 50 q = nI a ∧ st < a ∧ a < st + tks N (q / 3 / 2) ∧ a % 3 = q % 3)
theorem drop_f {f i : Nat} (hf : f < 61 ∨ 63 < f) : sp_drop st S f i = S f i := by
  unfold sp_drop setL
  rw [if_neg (by omega), if_neg (by omega)]
  exact if_neg (by omega)
theorem drop_61 {i : Nat} : sp_drop st S 61 i = if i % 3 = st % 3 then 0 else S 61 i := by
  show (if 61 = 61 ∧ i % 3 = st % 3 then 0 else S 61 i) = _
  by_cases c : i % 3 = st % 3
  · rw [if_pos ⟨rfl, c⟩, if_pos c]
  · rw [if_neg (fun x => c x.2), if_neg c]
theorem arr_mi2 (nw : NW N) (hi : INV0 N S) (hm : MI N st S) : INV0 N (sp_drop st (sp_arr N st S)) ∧ MI2 N st (sp_drop st (sp_arr N st S)) := by
  have ai := AI.all nw hi hm (6 * nB N) (Nat.le_refl _)
  have a60 := arr_60 nw hi hm (6 * nB N) (Nat.le_refl _)
  rw [arrP_e nw] at ai a60
  obtain ⟨h1, h2, h3, h4⟩ := ai
  refine ⟨⟨fun i => ?_, fun e he hu k hk => ?_, fun b hb ho => ?_⟩, fun q hq => ?_⟩
  · have := h1.1 i
    rw [drop_f (by omega), drop_f (by omega), drop_f (by omega), drop_f (by omega), drop_f (by omega)]; exact this
  · rw [drop_f (by omega)]
    exact h1.2.1 e he (by rw [← hu]; exact (up_of (fun i => drop_f (by omega)) (fun i => drop_f (by omega))).symm) k hk
  · rw [drop_f (by omega)] at ho
    exact (h1.2.2 b hb ho).keep (fun f i hf _ => drop_f (by omega)) (fun f hf => drop_f (by omega)) (fun e => up_of (fun i => drop_f (by omega)) (fun i => drop_f (by omega)))
  · obtain ⟨i1, i2, i3⟩ := hm q hq
    have he : q / 3 < 2 * nL N := by omega
    have hpl : pl N (q / 3) < 6 * nB N := by
      have := nw.bo_b he; have := nw.po_6 he
      unfold pl; omega
    have hup : up N (sp_drop st (sp_arr N st S)) (q / 3) = up N S (q / 3) := (up_of (fun i => drop_f (by omega)) (fun i => drop_f (by omega))).trans (up_eq h2)
    rw [drop_f (f := 60) (by omega), drop_61]
    by_cases c : q % 3 = st % 3
    · rw [if_pos c, a60 q hq c hpl]
      exact ⟨rfl, Or.inl rfl, fun x => absurd x (by decide)⟩
    · rw [if_neg c, h3 61 q (by omega) (by omega) (by omega)]
      have e60 : sp_arr N st S 60 q = S 60 q := by
        -- a slot of another step is never touched
        have key : ∀ n, n ≤ 6 * nB N → pfold (sp_arrP N st) n S 60 q = S 60 q := by
          intro n
          induction n with
          | zero => intro _; rfl
          | succ n ih =>
            intro hn
            have ih := ih (by omega)
            have ai := AI.all nw hi hm n (by omega)
            rw [pf_s]
            generalize pfold (sp_arrP N st) n S = S1 at *
            obtain ⟨a1, a2, a3, a4⟩ := ai
            unfold sp_arrP
            by_cases d : n % 6 < nP N (n / 6)
            · rw [if_pos d]
              unfold sp_arr1
              have hb : n / 6 < nB N := by omega
              have ql := nw.eo_l hb d
              have hpl := nw.pl_eo hb d
              have sd := slot_d (eo N (n / 6) (n % 6)) st
              have t6 : slot (eo N (n / 6) (n % 6)) st < 6 * nL N := by unfold slot; omega
              have e60 : S1 60 (slot (eo N (n / 6) (n % 6)) st) = S 60 (slot (eo N (n / 6) (n % 6)) st) := a4 _ (by rw [sd.1, hpl]; omega)
              by_cases d2 : ceq (S1 60 (slot (eo N (n / 6) (n % 6)) st)) 1 = true
              · rw [if_pos d2]
                have hu := ((hm _ t6).2.2 (by rw [← e60]; exact ceq_of d2)).1
                rw [sd.1] at hu
                have hu' : up N (zu S1 60 (slot (eo N (n / 6) (n % 6)) st) 0) (eo N (n / 6) (n % 6)) = true := by
                  rw [show up N (zu S1 60 (slot (eo N (n / 6) (n % 6)) st) 0) (eo N (n / 6) (n % 6)) = up N S1 (eo N (n / 6) (n % 6)) from rfl, up_eq a2]; exact hu
                have hi' := (a1.z60 (v := 0) (i := slot (eo N (n / 6) (n % 6)) st))
                have kk := read_k (q := slot (eo N (n / 6) (n % 6)) st) nw ql hu' hi'.2.1
                rw [kk.2.2.2.2 60 q (by omega) (by omega)]
                refine (if_neg (fun x => c ?_)).trans ih
                rw [x.2]; exact sd.2
              · rw [if_neg d2]; exact ih
            · rw [if_neg d]; exact ih
        have := key (6 * nB N) (Nat.le_refl _)
        rw [arrP_e nw] at this
        exact this
      rw [e60, hup, drop_f (f := 50) (by omega), h3 50 q (by omega) (by omega) (by omega)]
      refine ⟨i1, i2, fun x => ?_⟩
      obtain ⟨u, a, x1, x2, x3, x4⟩ := i3 x
      exact ⟨c, u, a, x1, by have : a ≠ st := fun y => c (by omega); omega, x3, x4⟩
theorem R_arrive (q : MS N m B ν0 ν S) (hi : INV0 N S) (hm : MI N st S) (hst : S 44 0 = nI st) (hs : st < 2 ^ 30) : ∃ ν', f12_arrive m ν = some ν' ∧ MS N m B ν0 ν' (sp_drop st (sp_arr N st S)) := by
  have nw := q.nw
  have b8 := nw.b8
  obtain ⟨ν1, e1, q1⟩ := lp (Q := MS N m B ν0) (body := fun s => f12_arrive_L1 m s.1 s.2) nI (sp_arrP N st) (6 * nB N) (S := S) (μ := ν) (x0 := 0) (by
    intro n ν1 hn q1
    have ai := AI.all nw hi hm n (by omega)
    generalize pfold (sp_arrP N st) n S = S1 at *
    obtain ⟨ν2, e2, q2⟩ := R_arrP q1 hm hst hs ai hn
    refine ⟨ν2, ?_, q2⟩
    show f12_arrive_L1 m (nI n) ν1 = _
    unfold f12_arrive_L1
    rw [q1.g_b, mulQ6, clt_nI (by omega) (by omega), decide_eq_true hn, if_pos rfl, zb_lp e2, obs, nI_1]) (by
    intro ν1 q1
    show f12_arrive_L1 m (nI (6 * nB N)) ν1 = _
    unfold f12_arrive_L1
    rw [q1.g_b, mulQ6, clt_nI (by omega) (by omega), decide_eq_false (by omega), if_neg (by decide)]) (by omega) q
  have ai := AI.all nw hi hm (6 * nB N) (Nat.le_refl _)
  rw [arrP_e nw] at q1 ai
  obtain ⟨a1, a2, a3, a4⟩ := ai
  have s44 : sp_arr N st S 44 0 = nI st := (a2 44 0 (by unfold XG; omega)).trans hst
  have rows : ∀ (k t : Nat), (lS (sp_arr N st S))[k]? = some t → rowOK N (rw_ m B ν1) (sp_arr N st S) k t := fun k t hk => q1.1.2.2.2.2.2.2.2.2.2.2.2.2.2.2 k t hk
  have c50 : ∀ (k t : Nat), (lS (sp_arr N st S))[k]? = some t → ceq (sp_arr N st S 50 t) (nI st) = decide (t % 3 = st % 3) := by
    intro k t hk
    obtain ⟨_, t6, t61⟩ := q1.lk84 hk
    have m61 : S 61 t = 1 := by rw [← a3 61 t (by omega) (by omega) (by omega)]; exact t61
    obtain ⟨i1, i2, i3⟩ := hm t t6
    obtain ⟨_, a, x1, x2, x3, x4⟩ := i3 (i1.trans m61)
    have t3 := nw.t3 (l := t / 3 / 2) (by omega)
    rw [a3 50 t (by omega) (by omega) (by omega), x1, ceq_nI (by omega) (by omega)]
    exact decide_eq_decide.mpr ⟨fun x => by omega, fun x => by omega⟩
  have hl := q1.ll
  have r2 : rw_ m B ν1 2 = nI (lS (sp_arr N st S)).length := q1.1.2.2.2.2.2.2.2.2.2.2.2.2.2.1
  have r0 : rw_ m B ν1 0 = nI st := q1.1.2.2.2.2.2.2.2.2.1.1.trans s44
  have hlt : ∀ (k t : Nat), (lS (sp_arr N st S))[k]? = some t → k < (lS (sp_arr N st S)).length := fun k t hk => by
    rw [List.getElem?_eq_some_iff] at hk
    exact hk.1
  obtain ⟨ν2, R2, e2, q2, c2⟩ := R_cmp (N := N) (S := sp_arr N st S) (ls := lS (sp_arr N st S)) (kp := fun q => !(decide (q % 3 = st % 3))) (bd := fun s => f12_arrive_L3 m s.1 s.2.1 s.2.2) q1.rw hl rows (by
    intro n k t ν3 R3 hk hkp q3 h2 h0 hr
    show f12_arrive_L3 m (nI n) (nI k) ν3 = _
    have hl2 := hlt k t hk
    have g2 : f12_its m 2 ν3 = some (nI (lS (sp_arr N st S)).length) := (q3.its (k := 2) (by omega)).trans (congrArg some (h2.trans r2))
    have g0 : f12_its m 0 ν3 = some (nI st) := (q3.its (k := 0) (by omega)).trans (congrArg some (h0.trans r0))
    have gm : f12_msg m (nI k) 0 ν3 = some (sp_arr N st S 50 t) := (q3.msgR (c := 0) (by omega) (by omega)).trans (congrArg some hr.1)
    unfold f12_arrive_L3
    rw [g2, obs, clt_nI (by omega) (by omega), decide_eq_true hl2, if_pos rfl, gm, obs, g0, obs, c50 k t hk]
    have : decide (t % 3 = st % 3) = true := by
      cases hd : decide (t % 3 = st % 3) with
      | true => rfl
      | false => rw [hd] at hkp; cases hkp
    rw [this, if_pos rfl, obs, nI_1]) (by
    intro n k t ν3 R3 hk hkp q3 h2 h0 hr
    show f12_arrive_L3 m (nI n) (nI k) ν3 = _
    have hl2 := hlt k t hk
    have g2 : f12_its m 2 ν3 = some (nI (lS (sp_arr N st S)).length) := (q3.its (k := 2) (by omega)).trans (congrArg some (h2.trans r2))
    have g0 : f12_its m 0 ν3 = some (nI st) := (q3.its (k := 0) (by omega)).trans (congrArg some (h0.trans r0))
    have gm : f12_msg m (nI k) 0 ν3 = some (sp_arr N st S 50 t) := (q3.msgR (c := 0) (by omega) (by omega)).trans (congrArg some hr.1)
    unfold f12_arrive_L3
    rw [g2, obs, clt_nI (by omega) (by omega), decide_eq_true hl2, if_pos rfl, gm, obs, g0, obs, c50 k t hk]
    have : decide (t % 3 = st % 3) = false := by
      cases hd : decide (t % 3 = st % 3) with
      | false => rfl
      | true => rw [hd] at hkp; cases hkp
    rw [this, if_neg (by decide), nI_1, nI_1]; rfl) (by
    intro n ν3 R3 q3 h2
    show f12_arrive_L3 m (nI n) (nI (lS (sp_arr N st S)).length) ν3 = _
    have g2 : f12_its m 2 ν3 = some (nI (lS (sp_arr N st S)).length) := (q3.its (k := 2) (by omega)).trans (congrArg some (h2.trans r2))
    unfold f12_arrive_L3
    rw [g2, obs, clt_nI (by omega) (by omega), decide_eq_false (by omega), if_neg (by decide)])
  obtain ⟨ν3, e3, q3⟩ := q2.put (k := 2) (v := nI ((lS (sp_arr N st S)).filter (fun q => !(decide (q % 3 = st % 3)))).length) (by omega)
  refine ⟨ν3, ?_, q1.of q3 (q1.1.drop nw c2 (S0 := fun f i => if f = 61 ∧ i % 3 = st % 3 then 0 else sp_arr N st S f i) ?_ ?_) ?_⟩
  · unfold f12_arrive
    have e2' : zloop (fun s => f12_arrive_L3 m s.1 s.2.1 s.2.2) 1000000 (0, 0, ν1) = some (nI ((lS (sp_arr N st S)).filter (fun q => !(decide (q % 3 = st % 3)))).length, nI (lS (sp_arr N st S)).length, ν2) := e2
    have e3' : f12_puts m 2 (nI ((lS (sp_arr N st S)).filter (fun q => !(decide (q % 3 = st % 3)))).length) ν2 = some ν3 := e3
    rw [zb_lp e1, e2', ozb3, e3', obs]
  · intro i
    show (if 61 = 61 ∧ i % 3 = st % 3 then 0 else sp_arr N st S 61 i) = _
    by_cases c : i % 3 = st % 3
    · rw [if_pos ⟨rfl, c⟩, if_neg (by rw [decide_eq_true c]; decide)]
    · rw [if_neg (fun x => c x.2), if_pos (by rw [decide_eq_false c]; rfl)]
  · intro f i hf
    exact if_neg (fun x => hf x.1)
  · exact q1.2.1.eq (fun i => drop_f (by omega)) (fun i => drop_f (by omega))
end zR12
