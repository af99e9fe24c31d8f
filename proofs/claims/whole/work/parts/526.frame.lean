/-! A FRAME keeps what holds -/
/-- another state but for what is learnt -/
def LR (S S' : zS) : Prop := ∀ f i, f ≠ 42 → f ≠ 43 → S' f i = S f i
section zG6
variable {N : zN} {S S' : zS} {T : zT} {x : zS × zT} {h e b p t k c i j n st : Nat} {v : Int32}
/-- what a frame keeps, seen from the start -/
def LK (N : zN) (S S' : zS) : Prop := LR S S' ∧ AD N S'
theorem LK.lr1 (nw : NW N) (q : LK N S S') (hb : b < nB N) (hh : h < 8) (hv : v = 6 ∨ ∃ p, p < nP N b ∧ v = nI p ∧ up N S (eo N b p) = true) : LK N S (lrn b h v S') := by
  have r : LR S (lrn b h v S') := fun f i h1 h2 => by
    unfold lrn
    rw [show zu (zu S' 42 (b * 8 + h) v) 43 (b * 8 + h) 0 f i = S' f i from by unfold zu; rw [if_neg (fun x => h2 x.1), if_neg (fun x => h1 x.1)]]
    exact q.1 f i h1 h2
  refine ⟨r, fun a g p ha hg hp hx => ?_⟩
  have u : ∀ e, up N (lrn b h v S') e = up N S e := fun e => up_of (fun i => r 20 i (by omega) (by omega)) (fun i => r 40 i (by omega) (by omega))
  have u2 : ∀ e, up N S' e = up N S e := fun e => up_of (fun i => q.1 20 i (by omega) (by omega)) (fun i => q.1 40 i (by omega) (by omega))
  rw [u]
  have hx2 : (if a * 8 + g = b * 8 + h then v else S' 42 (a * 8 + g)) = nI p := by
    rw [← hx]
    show _ = zu (zu S' 42 (b * 8 + h) v) 43 (b * 8 + h) 0 42 (a * 8 + g)
    unfold zu
    rw [if_neg (show ¬ (42 = 43 ∧ a * 8 + g = b * 8 + h) by omega)]
    by_cases c : a * 8 + g = b * 8 + h
    · rw [if_pos c, if_pos ⟨rfl, c⟩]
    · rw [if_neg c, if_neg (fun x => c x.2)]
  have p6 := nw.p6 ha
  by_cases c : a * 8 + g = b * 8 + h
  · rw [if_pos c] at hx2
    have ab : a = b := by omega
    subst ab
    rcases hv with hv | ⟨p2, hp2, hv, hu⟩
    · rw [hv] at hx2
      have := ceq_nI (a := 6) (b := p) (by omega) (by omega)
      rw [decide_eq_false (by omega)] at this
      exact absurd (show ceq (nI 6) (nI p) = true from ceq_t hx2) (by rw [this]; decide)
    · rw [hv] at hx2
      have := ceq_nI (a := p2) (b := p) (by omega) (by omega)
      rw [ceq_t hx2] at this
      have e := of_decide_eq_true this.symm
      rw [← e]; exact hu
  · rw [if_neg c] at hx2
    rw [← u2]
    exact q.2 a g p ha hg hp hx2
theorem LK.ps (nw : NW N) (dn : DN N S) (q : LK N S x.1) (he : e < 2 * nL N) (hh : h < 8) : LK N S (fps N h e x).1 := by
  have fl := fe_lt he
  unfold fps
  by_cases c0 : (!(ceq (x.1 1 e) 2) || decide (x.2 3 0 = 1)) = true
  · rw [if_pos c0]; exact q
  · rw [if_neg c0]
    by_cases c1 : x.2 2 0 = 64
    · rw [if_pos c1]; exact q
    · rw [if_neg c1]
      by_cases c2 : ceq (x.1 1 (fe e)) 0 = true
      · rw [if_pos c2]; exact q
      · rw [if_neg c2]
        refine LK.lr1 nw q (nw.bo_b fl) hh (Or.inr ⟨_, nw.po_p fl, rfl, ?_⟩)
        rw [nw.eo_e fl]
        cases hu : up N S (fe e) with
        | true => rfl
        | false =>
          have := dn _ fl hu 1 (by omega)
          rw [q.1 1 _ (by omega) (by omega), this] at c2
          exact absurd rfl c2
theorem LK.fl (nw : NW N) (dn : DN N S) (hb : b < nB N) (hh : h < 8) : ∀ n, n ≤ nP N b → ∀ x : zS × zT, LK N S x.1 → LK N S (pfold (ffl N h b j) n x).1
  | 0, _, x, q => q
  | n + 1, hn, x, q => by
    have ih := LK.fl nw dn hb hh n (by omega) x q
    show LK N S (ffl N h b j n (pfold (ffl N h b j) n x)).1
    generalize pfold (ffl N h b j) n x = y at *
    unfold ffl
    split
    · exact ih
    · exact LK.ps nw dn ih (nw.eo_l hb (by omega)) hh
theorem LK.rc (q : LK N S x.1) : LK N S (frc t b x).1 := by
  unfold frc
  split
  · exact q
  · exact q
theorem LK.go (nw : NW N) (dn : DN N S) (so : ∀ b h, b < nB N → h < 8 → okA N b (x.1 42 (b * 8 + h))) (q : LK N S x.1) (hh : h < 8) (ht : t < 8) (hc : c / 7 < nB N) : LK N S (fgo N h t c x).1 := by
  unfold fgo
  have ql := LK.fl nw dn hc hh (j := c % 7) (nP N (c / 7)) (Nat.le_refl _) x q
  split
  · split
    · exact ql
    · exact LK.rc ql
  · split
    · exact LK.rc q
    · split
      · exact q
      · rename_i h1 h2 h3
        rcases so (c / 7) t hc ht with hv | hv | ⟨p, hp, hv⟩
        · rw [hv] at h1; exact absurd rfl h1
        · rw [hv] at h2; exact absurd rfl h2
        · have p6 := nw.p6 hc
          rw [hv, nI_clamp (by omega)]
          exact LK.ps nw dn q (nw.eo_l hc hp) hh
/-- whatever a frame does, addresses are such as can be -/
def okS (N : zN) (S : zS) : Prop := ∀ b h, b < nB N → h < 8 → okA N b (S 42 (b * 8 + h))
theorem okS.lr1 (q : okS N S) (hb : b < nB N) (hh : h < 8) (hv : okA N b v) : okS N (lrn b h v S) := fun a g ha hg => by
  have e : lrn b h v S 42 (a * 8 + g) = if a * 8 + g = b * 8 + h then v else S 42 (a * 8 + g) := by
    show zu (zu S 42 (b * 8 + h) v) 43 (b * 8 + h) 0 42 (a * 8 + g) = _
    unfold zu
    rw [if_neg (by omega)]
    by_cases c : a * 8 + g = b * 8 + h
    · rw [if_pos c, if_pos ⟨rfl, c⟩]
    · rw [if_neg c, if_neg (fun x => c x.2)]
  rw [e]
  by_cases c : a * 8 + g = b * 8 + h
  · rw [if_pos c]
    have ab : a = b := by omega
    rw [ab]; exact hv
  · rw [if_neg c]; exact q a g ha hg
theorem okS.ps (nw : NW N) (q : okS N x.1) (he : e < 2 * nL N) (hh : h < 8) : okS N (fps N h e x).1 := by
  have fl := fe_lt he
  unfold fps
  split
  · exact q
  · split
    · exact q
    · split
      · exact q
      · exact okS.lr1 q (nw.bo_b fl) hh (Or.inr (Or.inr ⟨_, nw.po_p fl, rfl⟩))
theorem okS.fl (nw : NW N) (hb : b < nB N) (hh : h < 8) : ∀ n, n ≤ nP N b → ∀ x : zS × zT, okS N x.1 → okS N (pfold (ffl N h b j) n x).1
  | 0, _, x, q => q
  | n + 1, hn, x, q => by
    have ih := okS.fl nw hb hh n (by omega) x q
    show okS N (ffl N h b j n (pfold (ffl N h b j) n x)).1
    generalize pfold (ffl N h b j) n x = y at *
    unfold ffl
    split
    · exact ih
    · exact okS.ps nw ih (nw.eo_l hb (by omega)) hh
theorem okS.rc (q : okS N x.1) : okS N (frc t b x).1 := by
  unfold frc
  split
  · exact q
  · exact q
theorem okS.go (nw : NW N) (q : okS N x.1) (hh : h < 8) (ht : t < 8) (hc : c / 7 < nB N) : okS N (fgo N h t c x).1 := by
  unfold fgo
  have ql := okS.fl nw hc hh (j := c % 7) (nP N (c / 7)) (Nat.le_refl _) x q
  split
  · split
    · exact ql
    · exact okS.rc ql
  · split
    · exact okS.rc q
    · split
      · exact q
      · rename_i h1 h2 h3
        rcases q (c / 7) t hc ht with hv | hv | ⟨p, hp, hv⟩
        · rw [hv] at h1; exact absurd rfl h1
        · rw [hv] at h2; exact absurd rfl h2
        · have p6 := nw.p6 hc
          rw [hv, nI_clamp (by omega)]
          exact okS.ps nw q (nw.eo_l hc hp) hh
end zG6
section zG7
variable {N : zN} {S S' : zS} {T : zT} {x : zS × zT} {h e b p t k c i j n st : Nat} {v : Int32}
theorem FI.rc (q : FI N x.2) : FI N (frc t b x).2 := by
  unfold frc
  split
  · exact q
  · exact q
theorem FI.fl (nw : NW N) (hb : b < nB N) : ∀ n, n ≤ nP N b → ∀ x : zS × zT, FI N x.2 → FI N (pfold (ffl N h b j) n x).2
  | 0, _, x, q => q
  | n + 1, hn, x, q => by
    have ih := FI.fl nw hb n (by omega) x q
    show FI N (ffl N h b j n (pfold (ffl N h b j) n x)).2
    generalize pfold (ffl N h b j) n x = y at *
    unfold ffl
    split
    · exact ih
    · exact FI.ps nw ih (nw.eo_l hb (by omega))
theorem FI.go (nw : NW N) (so : okS N x.1) (q : FI N x.2) (ht : t < 8) (hc : c / 7 < nB N) : FI N (fgo N h t c x).2 := by
  unfold fgo
  have ql := FI.fl (h := h) (j := c % 7) nw hc (nP N (c / 7)) (Nat.le_refl _) x q
  split
  · split
    · exact ql
    · exact FI.rc ql
  · split
    · exact FI.rc q
    · split
      · exact q
      · rename_i h1 h2 h3
        rcases so (c / 7) t hc ht with hv | hv | ⟨p, hp, hv⟩
        · rw [hv] at h1; exact absurd rfl h1
        · rw [hv] at h2; exact absurd rfl h2
        · have p6 := nw.p6 hc
          rw [hv, nI_clamp (by omega)]
          exact FI.ps nw q (nw.eo_l hc hp)
theorem frn_k (nw : NW N) (dn : DN N S) (hh : h < 8) (ht : t < 8) : ∀ f k x, LK N S x.1 → okS N x.1 → FI N x.2 → LK N S (frn N h t f k x).1
  | 0, k, x, q, _, _ => q
  | f + 1, k, x, q, so, fi => by
    unfold frn
    split
    · rename_i hc
      have c1 := (fi.2.2.2 k hc.1).1
      exact frn_k nw dn hh ht f (k + 1) _ (LK.go nw dn so q hh ht c1) (okS.go nw so hh ht c1) (FI.go nw so fi ht c1)
    · exact q
/-- all that holds, holds behind a frame -/
theorem fcy_inv (nw : NW N) (hI : INV N st S) (so : okS N S) (hh : h < 8) (ht : t < 8) (hb : b < nB N) : INV N st (fcy N h t S b).1 ∧ LR S (fcy N h t S b).1 := by
  obtain ⟨⟨sv, dn, br⟩, mi, ad⟩ := hI
  have q0 : LK N S S := ⟨fun _ _ _ _ => rfl, ad⟩
  have q : LK N S (fcy N h t S b).1 := by
    unfold fcy
    split
    · refine frn_k nw dn hh ht 66 0 _ (LK.lr1 nw q0 hb hh (Or.inl rfl)) (okS.lr1 so hb hh (Or.inr (Or.inl rfl))) ?_
      refine FI.enq ⟨by unfold T0f; omega, by unfold T0f; omega, by unfold T0f; omega, fun k hk => absurd hk (by unfold T0f; omega)⟩ (Nat.le_refl _) ⟨by omega, Or.inl (by omega)⟩
    · exact q0
  obtain ⟨r, ad2⟩ := q
  generalize (fcy N h t S b).1 = S2 at *
  have u : ∀ e, up N S2 e = up N S e := fun e => up_of (fun i => r 20 i (by omega) (by omega)) (fun i => r 40 i (by omega) (by omega))
  refine ⟨⟨⟨fun i => ?_, fun e he hu k hk => ?_, fun a ha hx => ?_⟩, fun q hq => ?_, ad2⟩, r⟩
  · rw [r 2 i (by omega) (by omega), r 3 i (by omega) (by omega), r 27 i (by omega) (by omega), r 10 i (by omega) (by omega), r 16 i (by omega) (by omega)]
    exact sv i
  · rw [r k e (by omega) (by omega)]
    rw [u] at hu
    exact dn e he hu k hk
  · rw [r 20 a (by omega) (by omega)] at hx
    exact BR.keep2 (br a ha hx) (fun f p hf hp => r _ _ (by omega) (by omega)) (fun f hf => r _ _ (by omega) (by omega)) (fun p hp => u _)
  · rw [r 60 q (by omega) (by omega), r 61 q (by omega) (by omega), r 50 q (by omega) (by omega), u]
    exact mi q hq
end zG7
