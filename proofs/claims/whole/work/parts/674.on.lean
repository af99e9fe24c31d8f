/-! A NET BEGINS as an image says: both -/
section zM4
variable {N : zN} {x m w s B st top n k i f c p j b l t e P h : Nat} {μ0 μ μ' μ1 ν0 ν ν' ν1 M : zM} {S S' S1 X Z : zS} {v : Int32} {U : Nat → Bool} {g : Nat → Nat}
theorem R_begin2 (hb : gF ν 1244 m = nI 0) (nw : NW N) (ri : RI N m ν) (ok : OKI N g) (hg : ∀ j, j < 1600 → gA ν (m + 21) j = nI (g j)) (sv : SV S) : ∃ S1, (∀ f i, csF f → S1 f i = S f i) ∧ (∃ ν', ((f12_clears m ν).bind fun μ5 => zb2 (zloop (fun s => f12_on_L1 m s.1 s.2) 1000000 (0, μ5)) fun v_b_8 μ9 => zb2 (zloop (fun s => f12_on_L2 m s.1 s.2) 1000000 (0, μ9)) fun v_l_22 μ23 => zb2 (zloop (fun s => f12_on_L3 m s.1 s.2) 1000000 (0, μ23)) fun v_h_29 μ30 => f12_allBegin m μ30) = some ν' ∧ MS N m 0 ν ν' (zu (sp_ct N (ybg N (up N (imS N g S1)) (imS N g S1))) 46 0 0)) ∧ INV N 0 (zu (sp_ct N (ybg N (up N (imS N g S1)) (imS N g S1))) 46 0 0) ∧ T0 N (zu (sp_ct N (ybg N (up N (imS N g S1)) (imS N g S1))) 46 0 0) ∧ zu (sp_ct N (ybg N (up N (imS N g S1)) (imS N g S1))) 46 0 0 44 0 = 0 := by
  have b8 := nw.b8; have l14 := nw.l14; have h8 := nw.h8
  have sv1 : SV (imS N g (s38 N m ν S)) := fun i => by
    rw [imS_o (f := 2) (by omega), imS_o (f := 3) (by omega), imS_o (f := 27) (by omega), imS_o (f := 10) (by omega), imS_o (f := 16) (by omega), s38_f (f := 2) (by omega) (by omega), s38_f (f := 3) (by omega) (by omega), s38_f (f := 27) (by omega) (by omega), s38_f (f := 10) (by omega) (by omega), s38_f (f := 16) (by omega) (by omega)]
    exact sv i
  have w38 : ∀ b, imS N g (s38 N m ν S) 38 b = if b < nB N then 1 else gA ν (m + 26) b := fun b => by rw [imS_o (by omega)]; rfl
  have w48 : ∀ k, imS N g (s38 N m ν S) 48 k = gA ν (m + 27) k := fun k => by rw [imS_o (by omega)]; rfl
  have uu : ∀ e, e < 2 * nL N → up N (imS N g (Zw ν m)) e = up N (imS N g (s38 N m ν S)) e := fun e he => im_up nw he
  have W20 : ∀ b, b < nB N → imS N g (s38 N m ν S) 20 b = nI (g (3 * b)) := fun b hb => im20 hb
  have W21 : ∀ b, b < nB N → imS N g (s38 N m ν S) 21 b = nI (g (3 * b + 1)) := fun b hb => im21 hb
  have W22 : ∀ b, b < nB N → imS N g (s38 N m ν S) 22 b = nI (g (3 * b + 2)) := fun b hb => im22 hb
  have W40 : ∀ b, b < nL N → imS N g (s38 N m ν S) 40 b = nI (g (3 * nB N + b)) := fun b hb => im40 hb
  have W41 : ∀ b, b < nH N → imS N g (s38 N m ν S) 41 b = nI (g (3 * nB N + nL N + b)) := fun b hb => im41 hb
  refine ⟨s38 N m ν S, fun f i hf => s38_f (by unfold csF at hf; omega) (by unfold csF at hf; omega), ?_⟩
  generalize imS N g (s38 N m ν S) = W at *
  have hU : ∀ e, e < 2 * nL N → up N W e = up N W e := fun _ _ => rfl
  obtain ⟨p1, p2, p3⟩ := yb_inv nw sv1 hU
  obtain ⟨i1, i2, i3⟩ := ct_inv nw p1 p2 p3
  have fz := (yb_fz (N := N) (U := up N W) (S := W)).ct (N := N)
  refine ⟨?_, i1.z46, i2, ?_⟩
  · obtain ⟨ν1, e1, q1⟩ := R_zero hb nw ri
    obtain ⟨ν2, e2, q2⟩ := R_o1 q1 ok hg
    obtain ⟨ν3, e3, q3⟩ := R_o2 q2 ok hg
    obtain ⟨ν4, e4, q4⟩ := R_o3 q3 ok hg
    have q4 : MS N m 0 ν ν4 (imS N g (Zw ν m)) := q4
    obtain ⟨ν5, e5, q5⟩ := R_o4 q4
    obtain ⟨ν6, e6, q6⟩ := R_b5 q5
    have rf : ∀ f i, pfold (fun b S => zu S 38 b 1) (nB N) (pfold (rbv N) (nL N) (imS N g (Zw ν m))) f i = if f = 38 ∧ i < nB N then 1 else if i / 2 < nL N ∧ up N W i = true ∧ (f ≤ 10 ∨ f = 15 ∨ f = 16 ∨ f = 49) then (if f = 5 then nI (tE N i) else 0) else imS N g (Zw ν m) f i := fun f i => by
      rw [pf_zu (g := 38) (fun _ => 1), rbv_f nw uu (nL N) (Nat.le_refl _) f i]
    generalize pfold (fun b S => zu S 38 b 1) (nB N) (pfold (rbv N) (nL N) (imS N g (Zw ν m))) = Rb at q6 rf
    have zr : ∀ f i, 22 < f ∧ f ≠ 38 ∧ f ≠ 40 ∧ f ≠ 41 ∧ f ≠ 49 → Rb f i = Zw ν m f i := fun f i hf => by
      rw [rf, if_neg (by omega), if_neg (by omega), imS_o (by omega)]
    have rr : ∀ f i, f = 20 ∨ f = 21 ∨ f = 22 ∨ f = 40 ∨ f = 41 → Rb f i = imS N g (Zw ν m) f i := fun f i hf => by
      rw [rf, if_neg (by omega), if_neg (by omega)]
    have x32 : ∀ b, ¬ ybg N (up N W) W 32 b = 1 := fun b h => by
      rw [yb_o (by omega) (by omega) (by omega) (by omega)] at h
      exact absurd h (show ¬ (0 : Int32) = 1 by decide)
    have lx : lS (ybg N (up N W) W) = [] := by
      have e : ybg N (up N W) W 63 0 = 0 := by rw [yb_o (by omega) (by omega) (by omega) (by omega)]; rfl
      unfold lS
      rw [e]; rfl
    have lr : lS Rb = [] := by
      have e : Rb 63 0 = 0 := by rw [zr _ _ (by omega)]; rfl
      unfold lS
      rw [e]; rfl
    have q7 : MS N m 0 ν ν6 (ybg N (up N W) W) := by
      refine MS.rng q6 ⟨fun b h hb hh => Or.inl (by rw [yb_fz.1]), fun h hh => ⟨g (3 * nB N + nL N + h), ok.2.2 h hh, ?_⟩⟩ (fun e k he hk hx => ?_) (fun b k hb hk hx => ?_) (fun b hb hx => absurd hx (x32 b)) (fun l hl => ?_) (fun h hh => ?_) (fun b h hb hh => ⟨?_, ?_⟩) (fun b h hb h1 h2 => by rw [yb_fz.1]) ⟨?_, ?_⟩ (fun hx => absurd yb_fz.2.2.2 hx) ⟨fun k hk => ?_, fun b hb => ?_⟩ (by rw [lx, lr]) (fun q hq => ?_) (fun q c hq => by rw [lr] at hq; exact absurd hq List.not_mem_nil)
      · rw [yb_o (by omega) (by omega) (by omega) (by omega), bo1_o (by omega), W41 h hh]
      · by_cases c : k ≤ 10
        · rw [yb_k (by omega) he, rf, if_neg (show ¬ (k = 38 ∧ e < nB N) by omega)]
          by_cases cu : up N W e = true
          · rw [if_pos (show e / 2 < nL N ∧ up N W e = true ∧ (k ≤ 10 ∨ k = 15 ∨ k = 16 ∨ k = 49) from ⟨by omega, cu, Or.inl c⟩), if_pos cu]
          · rw [if_neg (show ¬ (e / 2 < nL N ∧ up N W e = true ∧ (k ≤ 10 ∨ k = 15 ∨ k = 16 ∨ k = 49)) from fun x => cu x.2.1), if_neg cu, imS_o (by omega), Zw_f (by omega) (by omega), Zc_0 (by omega) (by omega)]
            by_cases c5 : k = 5
            · rw [if_pos c5]
            · rw [if_neg c5]
        · have := hx (by omega)
          rw [yb_k (f := 10) (by omega) he, if_neg (by omega)] at this
          exact absurd this (by decide)
      · by_cases c3 : 3 ≤ k ∧ k ≤ 6
        · exact absurd (hx c3.1 c3.2) (x32 b)
        · by_cases k0 : k = 0
          · subst k0
            rw [yb_o (by omega) (by omega) (by omega) (by omega), bo1_o (by omega), W20 b hb, rr _ _ (by omega), im20 hb]
          · by_cases k1 : k = 1
            · subst k1
              rw [yb_o (by omega) (by omega) (by omega) (by omega), bo1_o (by omega), W21 b hb, rr _ _ (by omega), im21 hb]
            · by_cases k2 : k = 2
              · subst k2
                rw [yb_o (by omega) (by omega) (by omega) (by omega), bo1_o (by omega), W22 b hb, rr _ _ (by omega), im22 hb]
              · rw [zr _ _ (by omega), Zw_f (by omega) (by omega), Zc_0 (by omega) (by omega)]
                by_cases k7 : k = 7
                · subst k7; rw [yb_27, if_pos hb]
                · rw [yb_o (by omega) (by omega) (by omega) (by omega)]
                  unfold bo1
                  rw [if_neg (by omega), if_neg (by omega), if_neg (by omega), if_neg (by omega), if_pos (by omega)]
      · rw [yb_o (by omega) (by omega) (by omega) (by omega), bo1_o (by omega), W40 l hl, rr _ _ (by omega), im40 hl]
      · rw [yb_o (by omega) (by omega) (by omega) (by omega), bo1_o (by omega), W41 h hh, rr _ _ (by omega), im41 hh]
      · rw [yb_fz.1, zr _ _ (by omega)]; rfl
      · rw [yb_o (by omega) (by omega) (by omega) (by omega), zr _ _ (by omega)]; rfl
      · rw [yb_o (by omega) (by omega) (by omega) (by omega), zr _ _ (by omega)]; rfl
      · rw [yb_o (by omega) (by omega) (by omega) (by omega), zr _ _ (by omega)]; rfl
      · rw [yb_o (by omega) (by omega) (by omega) (by omega), bo1_o (by omega), w48, zr _ _ (by omega)]; rfl
      · rw [yb_o (by omega) (by omega) (by omega) (by omega), bo1_o (by omega), w38, rf]
        by_cases c : b < nB N
        · rw [if_pos c, if_pos ⟨rfl, c⟩]
        · rw [if_neg c, if_neg (fun x => c x.2), if_neg (by omega), imS_o (by omega)]; rfl
      · rw [yb_o (by omega) (by omega) (by omega) (by omega), zr _ _ (by omega)]; rfl
    obtain ⟨ν7, e7, q8⟩ := R_all q7 p1 (fun b hb => by
      rw [yb_47, if_pos hb, yb_o (by omega) (by omega) (by omega) (by omega), bo1_o (by omega), w38, if_pos hb])
    have q9 := q8.told fz.2.2.1
    have q10 := q9.w_f (v := 0)
    have ez : zu (zu (sp_ct N (ybg N (up N W) W)) 46 0 0) 44 1 0 = zu (sp_ct N (ybg N (up N W) W)) 46 0 0 := by
      funext f i
      unfold zu
      by_cases c : f = 44 ∧ i = 1
      · rw [if_pos c, if_neg (by omega), c.1, c.2]; exact fz.2.1.symm
      · rw [if_neg c]
    rw [ez] at q10
    refine ⟨_, ?_, q10⟩
    rw [e1, obs, e2, ozb2, e3, ozb2, e4, ozb2]
    unfold f12_allBegin
    rw [e5, ozb2, e6, ozb2, e7, obs, show f12_puts m 3 0 ν7 = some (sA ν7 (m + 24) (0 + 3) 0) from q8.puts (k := 3) (by omega), obs, show f12_puts m 1 0 (sA ν7 (m + 24) (0 + 3) 0) = some (sA (sA ν7 (m + 24) (0 + 3) 0) (m + 24) (0 + 1) 0) from q9.puts (k := 1) (by omega), obs]
  · rw [show zu (sp_ct N (ybg N (up N W) W)) 46 0 0 44 0 = sp_ct N (ybg N (up N W) W) 44 0 from if_neg (by omega), i3 44 0 (by omega), yb_o (by omega) (by omega) (by omega) (by omega)]; rfl
theorem bI01 {a : Nat} (h : a ≤ 1) : bI (ceq (nI a) 1) = nI a := by
  rcases (show a = 0 ∨ a = 1 by omega) with x | x <;> rw [x] <;> rfl
theorem C_o1 (h : CS N (x + 51) w μ0 μ S) (hr : gR μ0 1111 x = some w) (ok : OKI N g) (hg : ∀ j, j < 1600 → gA μ0 (x + 1) j = nI (g j)) : ∃ μ', zloop (fun s => f11_on_L1 x s.1 s.2.1 s.2.2) 1000000 (0, 0, μ) = some (nI (3 * nB N), nI (nB N), μ') ∧ CS N (x + 51) w μ0 μ' (pfold (ri1 g) (nB N) S) := by
  have nw := h.nw
  have b8 := nw.b8
  obtain ⟨r, e1, h1⟩ := zloop_up (body := fun s => f11_on_L1 x s.1 s.2.1 s.2.2) (fun i (ν : zM) => (nI (3 * i), nI i, ν)) (fun i μ' => CS N (x + 51) w μ0 μ' (pfold (ri1 g) i S)) (nB N) (fun r => ∃ μ', r = (nI (3 * nB N), nI (nB N), μ') ∧ CS N (x + 51) w μ0 μ' (pfold (ri1 g) (nB N) S)) (by
    intro i μ1 hi q1
    obtain ⟨o1, o2, o3⟩ := ok.1 i hi
    show ∃ y, f11_on_L1 x (nI (3 * i)) (nI i) μ1 = some (.inl (nI (3 * (i + 1)), nI (i + 1), y)) ∧ CS N (x + 51) w μ0 y (ri1 g i (pfold (ri1 g) i S))
    generalize pfold (ri1 g) i S = S2 at *
    have q2 := q1.w_on (e := i) (by omega) (v := ceq (nI (g (3 * i))) 1)
    have q3 := q2.w_prio (e := i) (by omega) (v := nI (g (3 * i + 1)))
    have q4 := q3.w_old (e := i) (by omega) (v := ceq (nI (g (3 * i + 2))) 1)
    have tp : ∀ {μ' S'}, CS N (x + 51) w μ0 μ' S' → ∀ j, j < 1600 → rA μ' (x + 1) 1600 (nI j) = some (nI (g j)) := fun q j hj => by rw [rA_nI hj (by omega), (q.c_fr (x + 1) (by omega)).2.2.2.1, hg j hj]
    unfold ri1
    rw [bI01 o1, bI01 o3] at q4
    have e64 : x + 64 + 3 * i = x + 51 + 13 + 3 * i := by omega
    unfold f11_on_L1
    rw [(q1.c_fr x (by omega)).2.2.1, hr, obs, q1.w_b, clt_nI (by omega) (by omega), decide_eq_true hi, if_pos rfl, rI_nI (by omega) (by omega), tp q1 _ (by omega)]
    simp only [wB, wF, obs, e64]
    rw [show nI (3 * i) + 1 = nI (3 * i + 1) from nI_add _ 1, show nI (3 * i) + 2 = nI (3 * i + 2) from nI_add _ 2, show nI (3 * i) + 3 = nI (3 * (i + 1)) from nI_add _ 3, tp q2 _ (by omega)]
    simp only [obs]
    rw [tp q3 _ (by omega)]
    simp only [obs]
    rw [nI_1]
    exact ⟨_, rfl, q4⟩) (by
    intro μ1 q1
    refine ⟨_, ?_, μ1, rfl, q1⟩
    show f11_on_L1 x (nI (3 * nB N)) (nI (nB N)) μ1 = _
    unfold f11_on_L1
    rw [(q1.c_fr x (by omega)).2.2.1, hr, obs, q1.w_b, clt_nI (by omega) (by omega), decide_eq_false (by omega), if_neg (by decide)]) (nB N) 0 1000000 μ (by omega) (by omega) (by omega) h
  obtain ⟨μ', rfl, h2⟩ := h1
  exact ⟨μ', e1, h2⟩
theorem C_o2 (h : CS N (x + 51) w μ0 μ S) (hr : gR μ0 1111 x = some w) (ok : OKI N g) (hg : ∀ j, j < 1600 → gA μ0 (x + 1) j = nI (g j)) : ∃ μ', zloop (fun s => f11_on_L2 x s.1 s.2.1 s.2.2) 1000000 (nI (3 * nB N), 0, μ) = some (nI (3 * nB N + nL N), nI (nL N), μ') ∧ CS N (x + 51) w μ0 μ' (pfold (fun l S => zu S 40 l (nI (g (3 * nB N + l)))) (nL N) S) := by
  have nw := h.nw
  have b8 := nw.b8
  have l14 := nw.l14
  obtain ⟨r, e1, h1⟩ := zloop_up (body := fun s => f11_on_L2 x s.1 s.2.1 s.2.2) (fun i (ν : zM) => (nI (3 * nB N + i), nI i, ν)) (fun i μ' => CS N (x + 51) w μ0 μ' (pfold (fun l S => zu S 40 l (nI (g (3 * nB N + l)))) i S)) (nL N) (fun r => ∃ μ', r = (nI (3 * nB N + nL N), nI (nL N), μ') ∧ CS N (x + 51) w μ0 μ' (pfold (fun l S => zu S 40 l (nI (g (3 * nB N + l)))) (nL N) S)) (by
    intro i μ1 hi q1
    have o1 := ok.2.1 i hi
    show ∃ y, f11_on_L2 x (nI (3 * nB N + i)) (nI i) μ1 = some (.inl (nI (3 * nB N + (i + 1)), nI (i + 1), y)) ∧ CS N (x + 51) w μ0 y (zu (pfold (fun l S => zu S 40 l (nI (g (3 * nB N + l)))) i S) 40 i (nI (g (3 * nB N + i))))
    generalize pfold (fun l S => zu S 40 l (nI (g (3 * nB N + l)))) i S = S2 at *
    have q2 := q1.w_whole (e := i) (by omega) (v := ceq (nI (g (3 * nB N + i))) 1)
    rw [bI01 o1] at q2
    unfold f11_on_L2
    rw [(q1.c_fr x (by omega)).2.2.1, hr, obs, q1.w_l, clt_nI (by omega) (by omega), decide_eq_true hi, if_pos rfl, rA_nI (by omega) (by omega), (q1.c_fr (x + 1) (by omega)).2.2.2.1, hg _ (by omega)]
    simp only [obs]
    rw [show x + 55 = x + 51 + 4 by omega, wZ_nI (by omega) (by omega), obs, nI_1, nI_1]
    exact ⟨_, rfl, q2⟩) (by
    intro μ1 q1
    refine ⟨_, ?_, μ1, rfl, q1⟩
    show f11_on_L2 x (nI (3 * nB N + nL N)) (nI (nL N)) μ1 = _
    unfold f11_on_L2
    rw [(q1.c_fr x (by omega)).2.2.1, hr, obs, q1.w_l, clt_nI (by omega) (by omega), decide_eq_false (by omega), if_neg (by decide)]) (nL N) 0 1000000 μ (by omega) (by omega) (by omega) h
  obtain ⟨μ', rfl, h2⟩ := h1
  exact ⟨μ', e1, h2⟩
theorem C_o3 (h : CS N (x + 51) w μ0 μ S) (hr : gR μ0 1111 x = some w) (ok : OKI N g) (hg : ∀ j, j < 1600 → gA μ0 (x + 1) j = nI (g j)) : ∃ μ', zloop (fun s => f11_on_L3 x s.1 s.2.1 s.2.2) 1000000 (nI (3 * nB N + nL N), 0, μ) = some (nI (3 * nB N + nL N + nH N), nI (nH N), μ') ∧ CS N (x + 51) w μ0 μ' (pfold (fun h S => zu S 41 h (nI (g (3 * nB N + nL N + h)))) (nH N) S) := by
  have nw := h.nw
  have b8 := nw.b8
  have l14 := nw.l14
  have h8 := nw.h8
  obtain ⟨r, e1, h1⟩ := zloop_up (body := fun s => f11_on_L3 x s.1 s.2.1 s.2.2) (fun i (ν : zM) => (nI (3 * nB N + nL N + i), nI i, ν)) (fun i μ' => CS N (x + 51) w μ0 μ' (pfold (fun h S => zu S 41 h (nI (g (3 * nB N + nL N + h)))) i S)) (nH N) (fun r => ∃ μ', r = (nI (3 * nB N + nL N + nH N), nI (nH N), μ') ∧ CS N (x + 51) w μ0 μ' (pfold (fun h S => zu S 41 h (nI (g (3 * nB N + nL N + h)))) (nH N) S)) (by
    intro i μ1 hi q1
    have o1 := ok.2.2 i hi
    show ∃ y, f11_on_L3 x (nI (3 * nB N + nL N + i)) (nI i) μ1 = some (.inl (nI (3 * nB N + nL N + (i + 1)), nI (i + 1), y)) ∧ CS N (x + 51) w μ0 y (zu (pfold (fun h S => zu S 41 h (nI (g (3 * nB N + nL N + h)))) i S) 41 i (nI (g (3 * nB N + nL N + i))))
    generalize pfold (fun h S => zu S 41 h (nI (g (3 * nB N + nL N + h)))) i S = S2 at *
    have q2 := q1.w_home (e := i) (by omega) (v := nI (g (3 * nB N + nL N + i))) ⟨_, o1, rfl⟩
    unfold f11_on_L3
    rw [(q1.c_fr x (by omega)).2.2.1, hr, obs, q1.w_h, clt_nI (by omega) (by omega), decide_eq_true hi, if_pos rfl, rA_nI (by omega) (by omega), (q1.c_fr (x + 1) (by omega)).2.2.2.1, hg _ (by omega)]
    simp only [obs]
    rw [show x + 56 = x + 51 + 5 by omega, wA_nI (by omega) (by omega), obs, nI_1, nI_1]
    exact ⟨_, rfl, q2⟩) (by
    intro μ1 q1
    refine ⟨_, ?_, μ1, rfl, q1⟩
    show f11_on_L3 x (nI (3 * nB N + nL N + nH N)) (nI (nH N)) μ1 = _
    unfold f11_on_L3
    rw [(q1.c_fr x (by omega)).2.2.1, hr, obs, q1.w_h, clt_nI (by omega) (by omega), decide_eq_false (by omega), if_neg (by decide)]) (nH N) 0 1000000 μ (by omega) (by omega) (by omega) h
  obtain ⟨μ', rfl, h2⟩ := h1
  exact ⟨μ', e1, h2⟩
end zM4
