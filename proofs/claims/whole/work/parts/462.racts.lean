/-! REFERENCE: ports go down and come up -/
def frR (l i : Nat) (R : Nat → Int32) : Nat → Int32 := uR R (100 + 18 * l + i) 0
section zR17
variable {N : zN} {m B : Nat} {ν0 ν ν' : zM} {S S' : zS} {R R' : Nat → Int32} {e b l h k n t P st : Nat}
theorem frR_f (R : Nat → Int32) : ∀ n j, pfold (frR l) n R j = if 100 + 18 * l ≤ j ∧ j < 100 + 18 * l + n then 0 else R j
  | 0, j => by rw [if_neg (by omega)]; rfl
  | n + 1, j => by
    have ih := frR_f R n
    rw [pf_s]
    unfold frR uR
    show (if j = 100 + 18 * l + n then 0 else pfold (frR l) n R j) = _
    rw [ih]
    by_cases c : j = 100 + 18 * l + n
    · rw [if_pos c, if_pos (by omega)]
    · rw [if_neg c]
      by_cases c2 : 100 + 18 * l ≤ j ∧ j < 100 + 18 * l + n
      · rw [if_pos c2, if_pos (by omega)]
      · rw [if_neg c2, if_neg (by omega)]
theorem MR.fresh (q : MR N R S) (nw : NW N) (he : e < 2 * nL N) : MR N (pfold (frR (pl N e)) 18 R) (sp_clr e 0 S) := by
  have b8 := nw.b8; have l14 := nw.l14; have h8 := nw.h8; have hp := nw.pl_48 he
  have g : ∀ k, k < 100 + 18 * pl N e ∨ 100 + 18 * pl N e + 18 ≤ k → pfold (frR (pl N e)) 18 R k = R k := fun k hk => by rw [frR_f, if_neg (by omega)]
  have z : ∀ f i, i ≠ e ∨ ¬ (f ≤ 10 ∨ f = 15 ∨ f = 16 ∨ f = 49) → sp_clr e 0 S f i = S f i := fun f i h => by rw [clr_f, if_neg (by omega)]
  have z0 : ∀ f, f ≤ 10 → sp_clr e 0 S f e = 0 := fun f hf => by rw [clr_f, if_pos ⟨rfl, by omega⟩]; split <;> rfl
  obtain ⟨m1, m2, m3, m4, m5, m6, m7, m8, m9, m10, mw, m11⟩ := q
  refine ⟨?_, ?_, ?_, ?_, ?_, ?_, ?_, ?_, ?_, ?_, ?_, ?_⟩
  · intro e' k he' hk hh
    have hp' := nw.pl_48 he'
    by_cases c : e' = e
    · subst c
      by_cases c2 : 11 ≤ k
      · have := hh c2
        rw [z0 10 (by omega)] at this
        exact absurd this (by decide)
      · rw [z0 k (by omega), frR_f, if_pos (by omega)]
    · rw [z 10 _ (Or.inl c)] at hh
      have := pl_ne nw he he' c
      rw [g _ (by omega), z _ _ (Or.inl c)]
      exact m1 e' k he' hk hh
  · intro e' k he' h1 h2
    by_cases c : e' = e
    · subst c; rw [z0 k (by omega)]; exact Or.inl rfl
    · rw [z _ _ (Or.inl c)]; exact m2 e' k he' h1 h2
  · intro b' k hb' hk hc
    rw [z 32 _ (by omega)] at hc
    rw [g _ (by omega), z _ _ (by omega)]; exact m3 b' k hb' hk hc
  · intro b' hb'; rw [z _ _ (by omega), z _ _ (by omega)]; exact m4 b' hb'
  · intro l hl; rw [z _ _ (by omega), g _ (by omega)]; exact m5 l hl
  · intro h hh; rw [z _ _ (by omega), g _ (by omega)]; exact m6 h hh
  · intro b' h hb' hh; rw [z _ _ (by omega), z _ _ (by omega), g _ (by omega), g _ (by omega)]; exact m7 b' h hb' hh
  · intro b' h hb' h1 h2; rw [z _ _ (by omega)]; exact m8 b' h hb' h1 h2
  · rw [z _ _ (by omega), z _ _ (by omega), g _ (by omega), g _ (by omega)]; exact m9
  · obtain ⟨t, t1, t2, t3⟩ := m10
    refine ⟨t, t1, by rw [g _ (by omega)]; exact t2, fun hb => ?_⟩
    rw [z _ _ (by omega)] at hb
    obtain ⟨t4, t5⟩ := t3 hb
    exact ⟨by rw [z _ _ (by omega)]; exact t4, fun k hk => by rw [z _ _ (by omega), g _ (by omega)]; exact t5 k hk⟩
  · exact ⟨fun k hk => by rw [g _ (by omega), z _ _ (by omega)]; exact mw.1 k hk, fun b hb => by rw [g _ (by omega), z _ _ (by omega)]; exact mw.2 b hb⟩
  · exact m11.keep (g _ (by omega)) (fun k hk => g _ (by omega)) (fun c q h1 h2 _ => z _ _ (by omega))
theorem R_fresh (q : MS N m B ν0 ν S) (he : e < 2 * nL N) : ∃ ν', f12_isFresh m (nI (pl N e)) ν = some ν' ∧ MS N m B ν0 ν' (sp_clr e 0 S) := by
  have nw := q.nw
  have hp := nw.pl_48 he
  obtain ⟨ν1, e1, q1⟩ := lp (Q := RW m B ν0) (body := fun s => f12_isFresh_L1 m (nI (pl N e)) s.1 s.2) nI (frR (pl N e)) 18 (S := rw_ m B ν) (μ := ν) (x0 := 0) (by
    intro i ν1 hi q1
    generalize pfold (frR (pl N e)) i (rw_ m B ν) = R1 at *
    obtain ⟨ν2, e2, q2⟩ := q1.sets (l := pl N e) (k := i) (v := 0) hp hi
    refine ⟨ν2, ?_, q2⟩
    show f12_isFresh_L1 m (nI (pl N e)) (nI i) ν1 = _
    unfold f12_isFresh_L1
    rw [cltR18 (by omega), decide_eq_true hi, if_pos rfl, e2, obs, obs, nI_1]) (by
    intro ν1 q1
    show f12_isFresh_L1 m (nI (pl N e)) (nI 18) ν1 = _
    unfold f12_isFresh_L1
    rw [cltR18 (by omega), decide_eq_false (by omega), if_neg (by decide)]) (by omega) q.rw
  unfold f12_isFresh
  exact ⟨ν1, zb_lp e1, q.of q1 (q.1.fresh nw he) (q.2.1.eq (fun i => by rw [clr_f, if_neg (by omega)]) (fun i => by rw [clr_f, if_neg (by omega)]))⟩
theorem R_come (q : MS N m B ν0 ν S) (he : e < 2 * nL N) : ∃ ν', f12_comesUp m (nI (pl N e)) ν = some ν' ∧ MS N m B ν0 ν' (sp_clr e (nI (tE N e)) S) := by
  have nw := q.nw
  obtain ⟨ν1, e1, q1⟩ := R_fresh q he
  have te := nw.te he
  obtain ⟨ν2, e2, q2⟩ := q1.s5 he (v := nI (tE N e)) (by
    have : tE N e = 0 ∨ tE N e = 1 := by omega
    rcases this with h | h <;> rw [h]
    · exact Or.inl rfl
    · exact Or.inr rfl)
  rw [clr_5]
  refine ⟨ν2, ?_, q2⟩
  unfold f12_comesUp
  rw [e1, obs, q1.g_lk he, obs, q1.g_en he, obs, mulQ2, nI_add, show 2 * (e / 2) + e % 2 = e by omega, q1.g_te he, obs, e2]; rfl
theorem R_drops (q : MS N m B ν0 ν S) (hl : l < nL N) : ∃ ν', f12_dropsMessages m (nI l) ν = some ν' ∧ MS N m B ν0 ν' (dropL l S) := by
  have nw := q.nw
  have mt := q.2.2.1
  have l14 := nw.l14
  have rows : ∀ (k t : Nat), (lS S)[k]? = some t → rowOK N (rw_ m B ν) S k t := fun k t hk => q.1.2.2.2.2.2.2.2.2.2.2.2.2.2.2 k t hk
  have hll := q.ll
  have r2 : rw_ m B ν 2 = nI (lS S).length := q.1.2.2.2.2.2.2.2.2.2.2.2.2.2.1
  have hlt : ∀ (k t : Nat), (lS S)[k]? = some t → k < (lS S).length := fun k t hk => by
    rw [List.getElem?_eq_some_iff] at hk
    exact hk.1
  have common : ∀ (n k t : Nat) ν3 R3, (lS S)[k]? = some t → RW m B ν0 ν3 R3 → R3 2 = rw_ m B ν 2 → rowOK N R3 S k t → f12_dropsMessages_L1 m (nI l) (nI n) (nI k) ν3 = if decide (t / 3 / 2 = l) = true then some (.inl (nI n, nI (k + 1), ν3)) else (zb2 (zloop (fun s => f12_arrive_L4 m (nI n) (nI k) s.1 s.2) 1000000 (0, ν3)) fun _ ν2 => some (.inl (nI (n + 1), nI (k + 1), ν2))) := by
    intro n k t ν3 R3 hk q3 h2 hr
    have hl2 := hlt k t hk
    have he : t / 3 < 2 * nL N := by have := (q.lk84 hk).2.1; omega
    have g2 : f12_its m 2 ν3 = some (nI (lS S).length) := (q3.its (k := 2) (by omega)).trans (congrArg some (h2.trans r2))
    have g1 : f12_msg m (nI k) 1 ν3 = some (nI (bo N (t / 3))) := (q3.msgR (c := 1) (by omega) (by omega)).trans (congrArg some hr.2.1)
    have gg : f12_msg m (nI k) 2 ν3 = some (nI (po N (t / 3))) := (q3.msgR (c := 2) (by omega) (by omega)).trans (congrArg some hr.2.2.1)
    have e0 : f12_placeOf (nI (bo N (t / 3))) (nI (po N (t / 3))) ν3 = some (nI (pl N (t / 3))) := pl_add _ _
    unfold f12_dropsMessages_L1
    rw [g2, obs, clt_nI (by omega) (by omega), decide_eq_true hl2, if_pos rfl, g1, obs, gg, obs, e0, obs, q3.g_lk mt he, obs, ceq_nI (by omega) (by omega), nI_1, nI_1]
    rfl
  obtain ⟨ν2, R2, e2, q2, c2⟩ := R_cmp (N := N) (S := S) (ls := lS S) (kp := fun q => !(decide (q / 3 / 2 = l))) (bd := fun s => f12_dropsMessages_L1 m (nI l) s.1 s.2.1 s.2.2) q.rw hll rows (by
    intro n k t ν3 R3 hk hkp q3 h2 h0 hr
    show f12_dropsMessages_L1 m (nI l) (nI n) (nI k) ν3 = _
    rw [common n k t ν3 R3 hk q3 h2 hr]
    have : decide (t / 3 / 2 = l) = true := by
      cases hd : decide (t / 3 / 2 = l) with
      | true => rfl
      | false => rw [hd] at hkp; cases hkp
    rw [this, if_pos rfl]) (by
    intro n k t ν3 R3 hk hkp q3 h2 h0 hr
    show f12_dropsMessages_L1 m (nI l) (nI n) (nI k) ν3 = _
    rw [common n k t ν3 R3 hk q3 h2 hr]
    have : decide (t / 3 / 2 = l) = false := by
      cases hd : decide (t / 3 / 2 = l) with
      | false => rfl
      | true => rw [hd] at hkp; cases hkp
    rw [this, if_neg (by decide)]) (by
    intro n ν3 R3 q3 h2
    show f12_dropsMessages_L1 m (nI l) (nI n) (nI (lS S).length) ν3 = _
    have g2 : f12_its m 2 ν3 = some (nI (lS S).length) := (q3.its (k := 2) (by omega)).trans (congrArg some (h2.trans r2))
    unfold f12_dropsMessages_L1
    rw [g2, obs, clt_nI (by omega) (by omega), decide_eq_false (by omega), if_neg (by decide)])
  obtain ⟨ν3, e3, q3⟩ := q2.put (k := 2) (v := nI ((lS S).filter (fun q => !(decide (q / 3 / 2 = l)))).length) (by omega)
  refine ⟨ν3, ?_, q.of q3 (q.1.drop nw c2 (S0 := fun f i => if f = 61 ∧ i / 3 / 2 = l then 0 else S f i) ?_ ?_) ?_⟩
  · unfold f12_dropsMessages
    have e2' : zloop (fun s => f12_dropsMessages_L1 m (nI l) s.1 s.2.1 s.2.2) 1000000 (0, 0, ν) = some (nI ((lS S).filter (fun q => !(decide (q / 3 / 2 = l)))).length, nI (lS S).length, ν2) := e2
    have e3' : f12_puts m 2 (nI ((lS S).filter (fun q => !(decide (q / 3 / 2 = l)))).length) ν2 = some ν3 := e3
    rw [e2', ozb3, e3', obs]
  · intro i
    show (if 61 = 61 ∧ i / 3 / 2 = l then 0 else S 61 i) = _
    by_cases c : i / 3 / 2 = l
    · rw [if_pos ⟨rfl, c⟩, if_neg (by rw [decide_eq_true c]; decide)]
    · rw [if_neg (fun x => c x.2), if_pos (by rw [decide_eq_false c]; rfl)]
  · intro f i hf
    exact if_neg (fun x => hf x.1)
  · exact q.2.1.eq (fun i => dropL_f (by omega)) (fun i => dropL_f (by omega))
def rq_down (N : zN) (e : Nat) (S : zS) : zS := dropL (e / 2) (sp_forget N e (sp_clr e 0 S))
theorem R_down (q : MS N m B ν0 ν S) (he : e < 2 * nL N) : ∃ ν', f12_goesDown m (nI (pl N e)) ν = some ν' ∧ MS N m B ν0 ν' (rq_down N e S) := by
  obtain ⟨ν1, e1, q1⟩ := R_fresh q he
  obtain ⟨ν2, e2, q2⟩ := R_forget q1 he
  obtain ⟨ν3, e3, q3⟩ := R_drops (l := e / 2) q2 (by omega)
  refine ⟨ν3, ?_, q3⟩
  unfold f12_goesDown
  rw [e1, obs, e2, obs, q2.g_lk he, obs, e3]; rfl
/-- a bridge's choice may come -/
def WB (N : zN) (b : Nat) (S : zS) : Prop := (S 32 b = 1 → S 28 b = S 23 b ∧ S 29 b = S 24 b ∧ S 30 b = S 31 b) ∧ (S 32 b ≠ 1 → ∀ p, p < nP N b → S 0 (eo N b p) = 0)
theorem RC.wb (nw : NW N) (hb : b < nB N) (hd : DN N S) (h : WB N b S) : RC N b S := ⟨fun p hp h1 => by
  cases hu : up N S (eo N b p) with
  | true => rfl
  | false =>
    have := hd _ (nw.eo_l hb hp) hu 10 (by omega)
    rw [this] at h1; exact absurd h1 (by decide), h.1, h.2⟩
theorem BR.wb (h : BR N b S) : WB N b S := ⟨fun _ => h.1.2.2, fun x => absurd h.1.1 x⟩
/-- the choices of those touched, so far -/
def CTI (N : zN) (n : Nat) (S S' : zS) : Prop := (SV S' ∧ DN N S' ∧ (∀ b, b < nB N → S' 20 b = 1 → WB N b S') ∧ ∀ b, b < nB N → S' 20 b = 1 → b < n ∨ S 47 b ≠ 1 → BR N b S') ∧ (∀ b, n ≤ b → S' 47 b = S 47 b) ∧ (∀ b, b < n → S' 47 b = 0) ∧ (∀ f i, (f = 20 ∨ f = 21 ∨ f = 22 ∨ f = 40 ∨ f = 41 ∨ f = 46 ∨ f = 38 ∨ (f = 44 ∧ i = 0) ∨ (50 ≤ f ∧ f ≤ 63)) → S' f i = S f i) ∧ ∀ i, S' 42 i = S 42 i ∨ S' 42 i = -1
theorem CTI.nx (nw : NW N) (h : CTI N n S S') (hn : n < nB N) : CTI N (n + 1) S (sp_ct1 N n S') := by
  obtain ⟨⟨h1, h2, h3, h4⟩, h5, h5b, h6, h7⟩ := h
  have z7 : ∀ (X : zS) f i, f ≠ 47 → zu X 47 n 0 f i = X f i := fun X f i hf => if_neg (fun x => hf x.1)
  have key : ∀ X : zS, SV X → DN N X → (∀ b, b < nB N → X 20 b = 1 → WB N b X) → (∀ b, b < nB N → X 20 b = 1 → b < n + 1 ∨ S 47 b ≠ 1 → BR N b X) → (∀ b, n ≤ b → X 47 b = S 47 b) → (∀ b, b < n → X 47 b = 0) → (∀ f i, (f = 20 ∨ f = 21 ∨ f = 22 ∨ f = 40 ∨ f = 41 ∨ f = 46 ∨ f = 38 ∨ (f = 44 ∧ i = 0) ∨ (50 ≤ f ∧ f ≤ 63)) → X f i = S f i) → (∀ i, X 42 i = S 42 i ∨ X 42 i = -1) → CTI N (n + 1) S (zu X 47 n 0) := by
    intro X x1 x2 x3 x4 x5 x5b x6 x7
    refine ⟨⟨fun i => x1 i, fun e he hu k hk => (z7 X k e (by omega)).trans (x2 e he hu k hk), fun b hb ho => ?_, fun b hb ho hh => ?_⟩, fun b hb => ?_, fun b hb => ?_, fun f i hf => ?_, fun i => x7 i⟩
    · have w := x3 b hb ho
      exact ⟨w.1, w.2⟩
    · exact (x4 b hb ho hh).keep (fun f i hf _ => z7 X f i (by omega)) (fun f hf => z7 X f b (by omega)) (fun e => rfl)
    · show (if 47 = 47 ∧ b = n then 0 else X 47 b) = _
      rw [if_neg (by omega)]; exact x5 b (by omega)
    · show (if 47 = 47 ∧ b = n then 0 else X 47 b) = _
      by_cases c : b = n
      · rw [if_pos ⟨rfl, c⟩]
      · rw [if_neg (fun x => c x.2)]; exact x5b b (by omega)
    · rw [z7 X f i (by omega)]; exact x6 f i hf
  unfold sp_ct1
  by_cases c : (ceq (S' 47 n) 1 && ceq (S' 20 n) 1) = true
  · rw [if_pos c]
    have hc := choose_k (S := S') nw hn
    have ho := choose_o (S := S') nw hn
    have ht : only (XT N n) S' (sp_choose N n S') := ho.mono (fun _ _ h => h.t)
    refine key _ (hc.2.1 h1) (hc.dn h2) (fun b hb hon => ?_) (fun b hb hon hh => ?_) (fun b hb => ?_) (fun b hb => ?_) (fun f i hf => ?_) (fun i => ?_)
    · rw [hc.1 20 b (by unfold XG; omega)] at hon
      by_cases cb : b = n
      · subst cb; exact (choose_br nw hn).wb
      · have w := h3 b hb hon
        have q1 : ∀ f, 23 ≤ f → f ≤ 37 → sp_choose N n S' f b = S' f b := fun f f1 f2 => ho f b (by
          intro x
          rcases x with x | x | x | x | x | x <;> omega)
        have q2 : ∀ p, p < nP N b → sp_choose N n S' 0 (eo N b p) = S' 0 (eo N b p) := fun p hp => ho 0 _ (by
          intro x
          rcases x with ⟨_, p', hp', hx⟩ | x | x | x | x | x
          · have := nw.bo_eo hn hp'
            rw [← hx, nw.bo_eo hb hp] at this
            exact cb this
          all_goals omega)
        refine ⟨fun x => ?_, fun x p hp => ?_⟩
        · rw [q1 32 (by omega) (by omega)] at x
          rw [q1 28 (by omega) (by omega), q1 23 (by omega) (by omega), q1 29 (by omega) (by omega), q1 24 (by omega) (by omega), q1 30 (by omega) (by omega), q1 31 (by omega) (by omega)]
          exact w.1 x
        · rw [q1 32 (by omega) (by omega)] at x
          rw [q2 p hp]; exact w.2 x p hp
    · rw [hc.1 20 b (by unfold XG; omega)] at hon
      by_cases cb : b = n
      · subst cb; exact choose_br nw hn
      · exact (h4 b hb hon (hh.imp (fun x => by omega) id)).oth nw hn hb cb ht
    · rw [hc.1 47 b (by unfold XG; omega)]; exact h5 b hb
    · rw [hc.1 47 b (by unfold XG; omega)]; exact h5b b hb
    · by_cases c50 : 50 ≤ f ∧ f ≤ 63
      · rw [hc.2.2.2.2 f i c50.1 c50.2]; exact h6 f i hf
      · rw [hc.1 f i (by unfold XG; omega)]; exact h6 f i hf
    · rcases hc.2.2.2.1 i with x | x
      · rw [x]; exact h7 i
      · exact Or.inr x
  · rw [if_neg c]
    refine key _ h1 h2 h3 (fun b hb hon hh => ?_) h5 h5b h6 h7
    by_cases cb : b = n
    · subst cb
      refine h4 b hb hon (Or.inr (fun x => c ?_))
      rw [h5 b (Nat.le_refl _), x, hon]; rfl
    · exact h4 b hb hon (hh.imp (fun x => by omega) id)
theorem CTI.all (nw : NW N) (h1 : SV S) (h2 : DN N S) (h3 : ∀ b, b < nB N → S 20 b = 1 → WB N b S) (h4 : ∀ b, b < nB N → S 20 b = 1 → S 47 b ≠ 1 → BR N b S) : ∀ n, n ≤ nB N → CTI N n S (pfold (sp_ct1 N) n S)
  | 0, _ => ⟨⟨h1, h2, h3, fun b hb ho hh => h4 b hb ho (hh.resolve_left (by omega))⟩, fun _ _ => rfl, fun b hb => by omega, fun _ _ _ => rfl, fun _ => Or.inl rfl⟩
  | n + 1, hn => (CTI.all nw h1 h2 h3 h4 n (by omega)).nx nw (by omega)
end zR17
