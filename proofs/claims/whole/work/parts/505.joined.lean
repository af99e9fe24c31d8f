/-! HOW MANY LINKS LIE BETWEEN -/
def dn1 (N : zN) (S : zS) (l : Nat) (D : Nat → Nat) : Nat → Nat := if opn S l = true then wset (wset D (bo N (2 * l)) (min (D (bo N (2 * l))) (D (bo N (2 * l + 1)) + 1))) (bo N (2 * l + 1)) (min (wset D (bo N (2 * l)) (min (D (bo N (2 * l))) (D (bo N (2 * l + 1)) + 1)) (bo N (2 * l + 1))) (wset D (bo N (2 * l)) (min (D (bo N (2 * l))) (D (bo N (2 * l + 1)) + 1)) (bo N (2 * l)) + 1)) else D
def dnp (N : zN) (S : zS) (_ : Nat) (D : Nat → Nat) : Nat → Nat := pfold (dn1 N S) (nL N) D
def btw (N : zN) (S : zS) (a : Nat) : Nat → Nat := pfold (dnp N S) 8 (wset (fun _ => 1000000) a 0)
def BD (t : Nat) (D : Nat → Nat) : Prop := ∀ b, D b ≤ 1000000 ∧ (D b < 1000000 → D b ≤ t)
/-- what is told of two bridges -/
def btA (N : zN) (S : zS) (a b : Nat) : Int32 := if btw N S a b < 1000000 then nI (btw N S a b) else -1
section zE7
variable {N : zN} {s w o m B n A t : Nat} {μ0 μ μ' ν0 ν ν' : zM} {S S' : zS} {a b c d e f i j k l r x y : Nat} {D : Nat → Nat} {K : zM → Prop}
theorem BD.st (h : BD t D) (x y : Nat) : BD (t + 1) (wset D x (min (D x) (D y + 1))) := fun b => by
  unfold wset
  have h1 := h x; have h2 := h y; have h3 := h b
  by_cases c : b = x
  · rw [if_pos c]
    refine ⟨by omega, fun hh => ?_⟩
    by_cases c1 : D x < 1000000
    · have := h1.2 c1; omega
    · by_cases c2 : D y < 1000000
      · have := h2.2 c2; omega
      · omega
  · rw [if_neg c]
    exact ⟨h3.1, fun hh => by have := h3.2 hh; omega⟩
theorem BD.mo (h : BD t D) (hn : t ≤ n) : BD n D := fun b => ⟨(h b).1, fun x => Nat.le_trans ((h b).2 x) hn⟩
theorem BD.d1 (h : BD t D) : BD (t + 2) (dn1 N S l D) := by
  unfold dn1
  by_cases c : opn S l = true
  · rw [if_pos c]
    exact (h.st _ _).st (bo N (2 * l + 1)) (bo N (2 * l))
  · rw [if_neg c]; exact h.mo (by omega)
theorem BD.dk (h : BD t D) : ∀ n, BD (t + 2 * n) (pfold (dn1 N S) n D)
  | 0 => h
  | n + 1 => by
    have := (BD.dk h n).d1 (N := N) (S := S) (l := n)
    exact this.mo (by omega)
theorem BD.dp (l14 : nL N ≤ 14) (h : BD t D) : ∀ n, BD (t + 28 * n) (pfold (dnp N S) n D)
  | 0 => h
  | n + 1 => by
    have := (BD.dp l14 h n).dk (N := N) (S := S) (nL N)
    exact this.mo (by omega)
theorem BD.z : BD 0 (wset (fun _ => 1000000) a 0) := fun b => by
  unfold wset
  by_cases c : b = a
  · rw [if_pos c]; exact ⟨by omega, fun _ => by omega⟩
  · rw [if_neg c]
    show (1000000 : Nat) ≤ 1000000 ∧ ((1000000 : Nat) < 1000000 → (1000000 : Nat) ≤ 0)
    exact ⟨by omega, fun h => by omega⟩
theorem LQ.wr {L : Nat → Nat} {v : Int32} (hK : ∀ μ j v, K μ → K (sA μ A j v)) (q : LQ K A μ L) (hv : v = nI n) : LQ K A (sA μ A k v) (wset L k n) := by
  refine ⟨hK _ _ _ q.1, fun b hb => ?_⟩
  rw [gA_sA]
  unfold wset
  by_cases c : b = k
  · rw [if_pos ⟨rfl, c⟩, if_pos c, hv]
  · rw [if_neg (fun x => c x.2), if_neg c]; exact q.2 b hb
theorem C_btw (h : CS N s w μ μ S) (ho : Out o 3 s w) (ha : a < nB N) (hb : b < nB N) : ∃ μ', f6_countBetween o s (nI a) (nI b) μ = some (btA N S a b, μ') ∧ CS N s w μ' μ' S ∧ FrD o 3 μ μ' := by
  have nw := h.nw
  have l14 := nw.l14; have b8 := nw.b8
  have hK : ∀ μ1 j v, (CS N s w μ1 μ1 S ∧ FrD o 3 μ μ1) → (CS N s w (sA μ1 (o + 2) j v) (sA μ1 (o + 2) j v) S ∧ FrD o 3 μ (sA μ1 (o + 2) j v)) := fun μ1 j v q => ⟨q.1.fd ho (FrD.rf.wA (by omega) (by omega)), q.2.wA (by omega) (by omega)⟩
  have q0 : LQ (fun μ' => CS N s w μ' μ' S ∧ FrD o 3 μ μ') (o + 2) (fillA μ (o + 2) 8 1000000) (fun _ => 1000000) := by
    have f : FrD o 3 μ (fillA μ (o + 2) 8 1000000) := fun a ha => ⟨fun _ => rfl, fun _ => rfl, fun _ => rfl, fun j => if_neg (by omega), fun _ => rfl, fun _ => rfl⟩
    exact ⟨⟨h.fd ho f, f⟩, fun k hk => if_pos ⟨rfl, hk⟩⟩
  have q1 := LQ.wr (k := a) (n := 0) (v := 0) hK q0 rfl
  have pass : ∀ D t μ1, LQ (fun μ' => CS N s w μ' μ' S ∧ FrD o 3 μ μ') (o + 2) μ1 D → BD t D → t ≤ 196 → ∃ μ', zloop (fun q => f6_countBetween_L2 o s q.1 q.2) 1000000 (0, μ1) = some (nI (nL N), μ') ∧ LQ (fun μ' => CS N s w μ' μ' S ∧ FrD o 3 μ μ') (o + 2) μ' (pfold (dn1 N S) (nL N) D) := fun D t μ1 q1 hD ht =>
    lp (Q := LQ (fun μ' => CS N s w μ' μ' S ∧ FrD o 3 μ μ') (o + 2)) (body := fun q => f6_countBetween_L2 o s q.1 q.2) nI (dn1 N S) (nL N) (S := D) (μ := μ1) (x0 := 0) (by
      intro i μ1 hi q1
      have bd := hD.dk (N := N) (S := S) i
      generalize pfold (dn1 N S) i D = E at *
      show ∃ μ', f6_countBetween_L2 o s (nI i) μ1 = some (.inl (nI (i + 1), μ')) ∧ _
      have x1 := nw.bo_8 (show 2 * i < 2 * nL N by omega)
      have x2 := nw.bo_8 (show 2 * i + 1 < 2 * nL N by omega)
      unfold f6_countBetween_L2 dn1
      rw [q1.1.1.c_wir, obs, q1.1.1.w_l, clt_nI (by omega) (by omega), decide_eq_true hi, if_pos rfl, C_opn q1.1.1 hi, obs]
      by_cases c : opn S i = true
      · rw [if_pos c, if_pos c]
        have y1 := (bd (bo N (2 * i))).1; have y2 := (bd (bo N (2 * i + 1))).1
        have q2 := LQ.wr (k := bo N (2 * i)) (n := min (E (bo N (2 * i))) (E (bo N (2 * i + 1)) + 1)) hK q1 rfl
        have bd2 := bd.st (bo N (2 * i)) (bo N (2 * i + 1))
        have y3 := (bd2 (bo N (2 * i))).1; have y4 := (bd2 (bo N (2 * i + 1))).1
        rw [obs, mulQ2, q1.1.1.w_bo (by omega), obs, obs, nI_1, q1.1.1.w_bo (by omega), obs, rA_nI x1 (by omega), obs, rA_nI x2 (by omega), obs, q1.2 _ x1, q1.2 _ x2, nI_1, iMin_nI (by omega) (by omega), wA_nI x1 (by omega), obs]
        rw [rA_nI x2 (by omega), obs, rA_nI x1 (by omega), obs, q2.2 _ x1, q2.2 _ x2, nI_1, iMin_nI (by omega) (by omega), wA_nI x2 (by omega), obs, obs, nI_1]
        exact ⟨_, rfl, LQ.wr hK q2 rfl⟩
      · rw [if_neg c, if_neg c, obs, nI_1]
        exact ⟨μ1, rfl, q1⟩) (by
      intro μ1 q1
      show f6_countBetween_L2 o s (nI (nL N)) μ1 = _
      unfold f6_countBetween_L2
      rw [q1.1.1.c_wir, obs, q1.1.1.w_l, clt_nI (by omega) (by omega), decide_eq_false (by omega), if_neg (by decide)]) (by omega) q1
  obtain ⟨μ2, e2, q2⟩ := lp (Q := LQ (fun μ' => CS N s w μ' μ' S ∧ FrD o 3 μ μ') (o + 2)) (body := fun q => f6_countBetween_L1 o s q.1 q.2) nI (dnp N S) 8 (S := wset (fun _ => 1000000) a 0) (μ := sA (fillA μ (o + 2) 8 1000000) (o + 2) a 0) (x0 := 0) (by
    intro i μ1 hi q1
    have bd := (BD.z (a := a)).dp (S := S) l14 i
    generalize pfold (dnp N S) i (wset (fun _ => 1000000) a 0) = E at *
    show ∃ μ', f6_countBetween_L1 o s (nI i) μ1 = some (.inl (nI (i + 1), μ')) ∧ _
    obtain ⟨μ3, e3, q3⟩ := pass E _ μ1 q1 bd (by omega)
    unfold f6_countBetween_L1
    rw [cltR8 (by omega), decide_eq_true hi, if_pos rfl, e3, ozb2, obs, nI_1]
    exact ⟨μ3, rfl, q3⟩) (by
    intro μ1 q1
    rfl) (by omega) q1
  refine ⟨μ2, ?_, q2.1⟩
  have bd := (BD.z (a := a)).dp (S := S) l14 8
  have y := (bd b).1
  have ec : clt (nI (btw N S a b)) 1000000 = decide (btw N S a b < 1000000) := by
    show clt (nI _) (nI 1000000) = _
    exact clt_nI (by unfold btw; omega) (by omega)
  unfold f6_countBetween fJ_fill btA
  rw [obs, wA_nI (by omega) (by omega), obs, e2, ozb2, rA_nI (by omega) (by omega), obs, obs, q2.2 b (by omega)]
  show ((if clt (nI (btw N S a b)) 1000000 = true then some (nI (btw N S a b)) else some (-1)).bind fun x26 => some (x26, μ2)) = _
  rw [ec]
  by_cases c : btw N S a b < 1000000
  · rw [decide_eq_true c, if_pos rfl, if_pos c, obs]
  · rw [decide_eq_false c, if_neg (by decide), if_neg c, obs]
theorem fI_1 (hy : ∀ x : Nat, y < 1000000 → y ≤ 300) : min (fI x) (fI y + 1) = fI (min x (y + 1)) := by
  unfold fI
  by_cases c : y < 1000000
  · have := hy 0 c
    rw [if_pos c]
    by_cases c2 : x < 1000000
    · rw [if_pos c2, if_pos (by omega)]
    · rw [if_neg c2, if_pos (by omega)]; omega
  · rw [if_neg c]
    by_cases c2 : x < 1000000
    · rw [if_pos c2, if_pos (by omega)]; omega
    · rw [if_neg c2, if_neg (by omega)]; omega
theorem R_btw (q : MS N m B ν ν S) (ha : a < nB N) (hb : b < nB N) : ∃ ν', (zb2 (zloop (fun s => f12_joined_L1 m (nI a) s.1 s.2) 1000000 (0, ν)) fun v_b_5 μ6 => zb2 (zloop (fun s => f12_joined_L2 m s.1 s.2) 1000000 (0, μ6)) fun v_n_12 μ13 => ((rA μ13 (m + 30) 8 (nI b)).bind fun t33 => if (clt t33 100000000) = true then ((rA μ13 (m + 30) 8 (nI b)).bind fun t34 => some t34) else (some (-1))).bind fun x32 => some (x32, μ13)) = some (btA N S a b, ν') ∧ MS N m B ν' ν' S ∧ FrD (m + 30) 1 ν ν' := by
  have nw := q.nw
  have l14 := nw.l14; have b8 := nw.b8
  have hK : ∀ ν1 j v, (MS N m B ν1 ν1 S ∧ FrD (m + 30) 1 ν ν1) → (MS N m B (sA ν1 (m + 30) j v) (sA ν1 (m + 30) j v) S ∧ FrD (m + 30) 1 ν (sA ν1 (m + 30) j v)) := fun ν1 j v q => ⟨q.1.wD (by omega), q.2.wA (by omega) (by omega)⟩
  obtain ⟨ν1, e1, h1⟩ := lp (Q := fun ν' n => (MS N m B ν' ν' S ∧ FrD (m + 30) 1 ν ν') ∧ ∀ k, k < n → gA ν' (m + 30) k = nI (fI (wset (fun _ => 1000000) a 0 k))) (body := fun s => f12_joined_L1 m (nI a) s.1 s.2) nI (fun i (_ : Nat) => i + 1) 8 (S := 0) (μ := ν) (x0 := 0) (by
    intro i ν1 hi q1
    rw [pf_n] at q1
    show ∃ ν', f12_joined_L1 m (nI a) (nI i) ν1 = some (.inl (nI (i + 1), ν')) ∧ (MS N m B ν' ν' S ∧ FrD (m + 30) 1 ν ν') ∧ ∀ k, k < i + 1 → gA ν' (m + 30) k = nI (fI (wset (fun _ => 1000000) a 0 k))
    have ex : ((if (ceq (nI i) (nI a)) = true then (some 0) else (some 100000000)) : Option Int32) = some (nI (fI (wset (fun _ => 1000000) a 0 i))) := by
      rw [ceq_nI (by omega) (by omega)]
      unfold wset
      by_cases c : i = a
      · rw [decide_eq_true c, if_pos rfl, if_pos c]; rfl
      · rw [decide_eq_false c, if_neg (by decide), if_neg c]; rfl
    unfold f12_joined_L1
    rw [cltR8 (by omega), decide_eq_true hi, if_pos rfl, ex, obs, wA_nI (by omega) (by omega), obs, obs, nI_1]
    refine ⟨_, rfl, hK _ _ _ q1.1, fun k hk => ?_⟩
    rw [gA_sA]
    by_cases c : k = i
    · rw [if_pos ⟨rfl, c⟩, c]
    · rw [if_neg (fun x => c x.2)]; exact q1.2 k (by omega)) (by
    intro ν1 q1
    rfl) (by omega) ⟨⟨q, FrD.rf⟩, fun k hk => absurd hk (by omega)⟩
  rw [pf_n] at h1
  have q1 : LQ (fun ν' => MS N m B ν' ν' S ∧ FrD (m + 30) 1 ν ν') (m + 30) ν1 (fun k => fI (wset (fun _ => 1000000) a 0 k)) := h1
  have pass : ∀ D t ν1, LQ (fun ν' => MS N m B ν' ν' S ∧ FrD (m + 30) 1 ν ν') (m + 30) ν1 (fun k => fI (D k)) → BD t D → t ≤ 196 → ∃ ν', zloop (fun s => f12_joined_L3 m s.1 s.2) 1000000 (0, ν1) = some (nI (nL N), ν') ∧ LQ (fun ν' => MS N m B ν' ν' S ∧ FrD (m + 30) 1 ν ν') (m + 30) ν' (fun k => fI (pfold (dn1 N S) (nL N) D k)) := fun D t ν1 q1 hD ht =>
    lp (Q := fun ν' D => LQ (fun ν' => MS N m B ν' ν' S ∧ FrD (m + 30) 1 ν ν') (m + 30) ν' (fun k => fI (D k))) (body := fun s => f12_joined_L3 m s.1 s.2) nI (dn1 N S) (nL N) (S := D) (μ := ν1) (x0 := 0) (by
      intro i ν1 hi q1
      have bd := hD.dk (N := N) (S := S) i
      generalize pfold (dn1 N S) i D = E at *
      show ∃ ν', f12_joined_L3 m (nI i) ν1 = some (.inl (nI (i + 1), ν')) ∧ LQ (fun ν' => MS N m B ν' ν' S ∧ FrD (m + 30) 1 ν ν') (m + 30) ν' (fun k => fI (dn1 N S i E k))
      have x1 := nw.bo_8 (show 2 * i < 2 * nL N by omega)
      have x2 := nw.bo_8 (show 2 * i + 1 < 2 * nL N by omega)
      unfold f12_joined_L3 dn1
      rw [q1.1.1.g_l, clt_nI (by omega) (by omega), decide_eq_true hi, if_pos rfl, R_opn q1.1.1 hi, obs]
      by_cases c : opn S i = true
      · rw [if_pos c, if_pos c]
        have ws : ∀ (F : Nat → Nat) k n, wset (fun k => fI (F k)) k (fI n) = fun j => fI (wset F k n j) := fun F k n => by
          funext j
          unfold wset
          split <;> rfl
        have y1 := fI_lt (E (bo N (2 * i))); have y2 := fI_lt (E (bo N (2 * i + 1)))
        have q2 := LQ.wr (k := bo N (2 * i)) (n := fI (min (E (bo N (2 * i))) (E (bo N (2 * i + 1)) + 1))) hK q1 rfl
        rw [ws] at q2
        have bd2 := bd.st (bo N (2 * i)) (bo N (2 * i + 1))
        generalize hE2 : wset E (bo N (2 * i)) (min (E (bo N (2 * i))) (E (bo N (2 * i + 1)) + 1)) = E2 at *
        have y3 := fI_lt (E2 (bo N (2 * i))); have y4 := fI_lt (E2 (bo N (2 * i + 1)))
        have r1 := q1.2 _ x1
        have r2 := q1.2 _ x2
        have r3 := q2.2 _ x1
        have r4 := q2.2 _ x2
        have r1 : gA ν1 (m + 30) (bo N (2 * i)) = nI (fI (E (bo N (2 * i)))) := r1
        have r2 : gA ν1 (m + 30) (bo N (2 * i + 1)) = nI (fI (E (bo N (2 * i + 1)))) := r2
        rw [q1.1.1.ends0 hi, obs, q1.1.1.ends2 hi, obs, rA_nI x1 (by omega), obs, rA_nI x2 (by omega), obs, r1, r2, nI_1, least_nI (by omega) (by omega), fI_1 (fun _ hh => by have := (bd (bo N (2 * i + 1))).2 hh; omega), obs, wA_nI x1 (by omega), obs]
        rw [rA_nI x2 (by omega), obs, rA_nI x1 (by omega), obs]
        rw [show gA (sA ν1 (m + 30) (bo N (2 * i)) (nI (fI (min (E (bo N (2 * i))) (E (bo N (2 * i + 1)) + 1))))) (m + 30) (bo N (2 * i + 1)) = nI (fI (E2 (bo N (2 * i + 1)))) from r4, show gA (sA ν1 (m + 30) (bo N (2 * i)) (nI (fI (min (E (bo N (2 * i))) (E (bo N (2 * i + 1)) + 1))))) (m + 30) (bo N (2 * i)) = nI (fI (E2 (bo N (2 * i)))) from r3, nI_1, least_nI (by omega) (by omega), fI_1 (fun _ hh => by have := (bd2 (bo N (2 * i))).2 hh; omega), obs, wA_nI x2 (by omega), obs, obs, nI_1]
        refine ⟨_, rfl, ?_⟩
        have q3 := LQ.wr (k := bo N (2 * i + 1)) (n := fI (min (E2 (bo N (2 * i + 1))) (E2 (bo N (2 * i)) + 1))) hK q2 rfl
        rw [ws] at q3
        exact q3
      · rw [if_neg c, if_neg c, obs, nI_1]
        exact ⟨ν1, rfl, q1⟩) (by
      intro ν1 q1
      show f12_joined_L3 m (nI (nL N)) ν1 = _
      unfold f12_joined_L3
      rw [q1.1.1.g_l, clt_nI (by omega) (by omega), decide_eq_false (by omega), if_neg (by decide)]) (by omega) q1
  obtain ⟨ν2, e2, q2⟩ := lp (Q := fun ν' D => LQ (fun ν' => MS N m B ν' ν' S ∧ FrD (m + 30) 1 ν ν') (m + 30) ν' (fun k => fI (D k))) (body := fun s => f12_joined_L2 m s.1 s.2) nI (dnp N S) 8 (S := wset (fun _ => 1000000) a 0) (μ := ν1) (x0 := 0) (by
    intro i ν1 hi q1
    have bd := (BD.z (a := a)).dp (S := S) l14 i
    generalize pfold (dnp N S) i (wset (fun _ => 1000000) a 0) = E at *
    show ∃ ν', f12_joined_L2 m (nI i) ν1 = some (.inl (nI (i + 1), ν')) ∧ _
    obtain ⟨ν3, e3, q3⟩ := pass E _ ν1 q1 bd (by omega)
    unfold f12_joined_L2
    rw [cltR8 (by omega), decide_eq_true hi, if_pos rfl, e3, ozb2, obs, nI_1]
    exact ⟨ν3, rfl, q3⟩) (by
    intro ν1 q1
    rfl) (by omega) q1
  refine ⟨ν2, ?_, q2.1⟩
  have bd := (BD.z (a := a)).dp (S := S) l14 8
  have y := (bd b).1
  have rb : gA ν2 (m + 30) b = nI (fI (btw N S a b)) := q2.2 b (by omega)
  unfold btA
  rw [e1, ozb2, e2, ozb2, rA_nI (by omega) (by omega), obs, obs, rb, fI_cl (by unfold btw; exact y)]
  by_cases c : btw N S a b < 1000000
  · rw [decide_eq_true c, if_pos rfl, if_pos c, obs, fI_id c]
  · rw [decide_eq_false c, if_neg (by decide), if_neg c, obs]
end zE7
