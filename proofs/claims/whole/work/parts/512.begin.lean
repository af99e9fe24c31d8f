/-! A NET BEGINS, in the class: the whole way -/
section zF2
variable {N N0 : zN} {s w w0 : Nat} {μ0 μ μ' μ1 : zM} {S : zS} {H : Nat → Int32} {f i n e b : Nat}
theorem bgc_o (hf : 10 < f ∧ f ≠ 15 ∧ f ≠ 16 ∧ f ≠ 49 ∧ f ≠ 60) : ∀ n, pfold (bgc N) n S f i = S f i
  | 0 => rfl
  | n + 1 => by
    show bgc N n (pfold (bgc N) n S) f i = S f i
    unfold bgc
    rw [clr_f, if_neg (by omega), dm_f, if_neg (by omega)]
    exact bgc_o hf n
theorem bg_up (nw : NW N) (he : e < 2 * nL N) (hS : ∀ f i, f = 20 ∨ f = 40 → S f i = bg1 N H S f i) : up N S e = true := by
  have x1 := nw.bo_b he
  have x2 := nw.bo_b (fe_lt he)
  unfold up
  rw [hS 40 _ (by omega), hS 20 _ (by omega), hS 20 _ (by omega), bg40, bg20, bg20, if_pos (by omega), if_pos x1, if_pos x2]; rfl
theorem C_begin (h : CS N0 s w0 μ0 μ S) (nw : NW N) (hi : WI N w μ) (hw : w + 13 ≤ s ∨ s + 261 ≤ w) : ∃ μ', f8_beginAsTold s w μ = some μ' ∧ CS N s w μ μ' (zu (sp_ct N (xbg N (fun j => gA μ (w + 12) j) S)) 46 0 0) := by
  have b8 := nw.b8; have l14 := nw.l14
  have hi1 : WI N w (sR μ 812 s (some w)) := hi.mv (fun a h1 h2 => ⟨fun _ => rfl, fun _ => rfl, fun k => by show (if k = 812 ∧ a = s then some w else gR μ k a) = gR μ k a; rw [if_neg (by omega)], fun _ => rfl, fun _ => rfl, fun _ => rfl⟩)
  have r1 : gR (sR μ 812 s (some w)) 812 s = some w := by show (if 812 = 812 ∧ s = s then some w else gR μ 812 s) = some w; rw [if_pos ⟨rfl, rfl⟩]
  obtain ⟨μ2, e2, y1, y2, y3, y4, y5, y6⟩ := C_bg1 nw hi1 hw r1
  have r2 : gR μ2 812 s = some w := (y5 812 s).trans r1
  obtain ⟨μ3, e3, z1, z2, z3, z4, z5, z6⟩ := C_bg2 (s := s) (w := w) nw (by rw [y1, if_neg (fun x => absurd x.1 (by omega))]; exact hi.1.2.1) r2
  have r3 : gR μ3 812 s = some w := (z5 812 s).trans r2
  have start : f8_beginAsTold s w μ = (f8_begin s (copyA μ3 (w + 12) (s + 5) 0 0 8)).bind fun μ27 => some μ27 := by
    unfold f8_beginAsTold
    simp only [wR, obs]
    rw [e2, ozb2, e3, ozb2, r3, obs]; rfl
  have bw : BGW N s w μ (sB (fillA (fillA (sF (sF (sF (sF (copyA μ3 (w + 12) (s + 5) 0 0 8) 813 s 0) 814 s 0) 815 s 0) 816 s 0) (s + 6) 64 (-1)) (s + 7) 64 0) 817 s true) := by
    refine ⟨fun k a => ?_, fun k a => ?_, fun a j => ?_, fun a j => ?_, fun k a => ?_, fun a j => ?_⟩
    · have e : gF (sB (fillA (fillA (sF (sF (sF (sF (copyA μ3 (w + 12) (s + 5) 0 0 8) 813 s 0) 814 s 0) 815 s 0) 816 s 0) (s + 6) 64 (-1)) (s + 7) 64 0) 817 s true) k a = if k = 816 ∧ a = s then 0 else if k = 815 ∧ a = s then 0 else if k = 814 ∧ a = s then 0 else if k = 813 ∧ a = s then 0 else gF μ3 k a := rfl
      rw [e, z2, y1]
      by_cases c : k = 5 ∧ ∃ b, b < nB N ∧ a = s + 13 + 3 * b
      · rw [if_neg (fun x => by have := c.1; omega), if_neg (fun x => by have := c.1; omega), if_neg (fun x => by have := c.1; omega), if_neg (fun x => by have := c.1; omega), if_pos c, if_pos c]
      · rw [if_neg c, if_neg c]
        by_cases c2 : 813 ≤ k ∧ k ≤ 816 ∧ a = s
        · rw [if_pos c2]
          by_cases d1 : k = 816
          · rw [if_pos ⟨d1, c2.2.2⟩]
          · rw [if_neg (fun x => d1 x.1)]
            by_cases d2 : k = 815
            · rw [if_pos ⟨d2, c2.2.2⟩]
            · rw [if_neg (fun x => d2 x.1)]
              by_cases d3 : k = 814
              · rw [if_pos ⟨d3, c2.2.2⟩]
              · rw [if_neg (fun x => d3 x.1), if_pos ⟨by omega, c2.2.2⟩]
        · rw [if_neg c2, if_neg (by omega), if_neg (by omega), if_neg (by omega), if_neg (by omega)]; rfl
    · have e : gB (sB (fillA (fillA (sF (sF (sF (sF (copyA μ3 (w + 12) (s + 5) 0 0 8) 813 s 0) 814 s 0) 815 s 0) 816 s 0) (s + 6) 64 (-1)) (s + 7) 64 0) 817 s true) k a = if k = 817 ∧ a = s then true else gB μ3 k a := rfl
      rw [e, z3, y2]
      by_cases c : k = 817 ∧ a = s
      · rw [if_pos c, if_neg (fun x => by have := c.1; omega), if_neg (fun x => by have := c.1; omega), if_pos c]
      · rw [if_neg c, if_neg c]; rfl
    · have e : gZ (sB (fillA (fillA (sF (sF (sF (sF (copyA μ3 (w + 12) (s + 5) 0 0 8) 813 s 0) 814 s 0) 815 s 0) 816 s 0) (s + 6) 64 (-1)) (s + 7) 64 0) 817 s true) a j = gZ μ3 a j := rfl
      rw [e, z1, y3]; rfl
    · have e : gA (sB (fillA (fillA (sF (sF (sF (sF (copyA μ3 (w + 12) (s + 5) 0 0 8) 813 s 0) 814 s 0) 815 s 0) 816 s 0) (s + 6) 64 (-1)) (s + 7) 64 0) 817 s true) a j = if a = s + 7 ∧ j < 64 then 0 else if a = s + 6 ∧ j < 64 then -1 else gA (copyA μ3 (w + 12) (s + 5) 0 0 8) a j := rfl
      rw [e, gA_cp, z4, z4, y4, y4]
      by_cases c7 : a = s + 7 ∧ j < 64
      · rw [if_pos c7, if_neg (by omega), if_neg (by omega), if_pos c7]
      · rw [if_neg c7]
        by_cases c6 : a = s + 6 ∧ j < 64
        · rw [if_pos c6, if_neg (by omega), if_pos c6]
        · rw [if_neg c6, if_neg c6, if_neg c7]; rfl
    · have e : gR (sB (fillA (fillA (sF (sF (sF (sF (copyA μ3 (w + 12) (s + 5) 0 0 8) 813 s 0) 814 s 0) 815 s 0) 816 s 0) (s + 6) 64 (-1)) (s + 7) 64 0) 817 s true) k a = gR μ3 k a := rfl
      rw [e, z5, y5]; rfl
    · have e : gX (sB (fillA (fillA (sF (sF (sF (sF (copyA μ3 (w + 12) (s + 5) 0 0 8) 813 s 0) 814 s 0) 815 s 0) 816 s 0) (s + 6) 64 (-1)) (s + 7) 64 0) 817 s true) a j = gX μ3 a j := rfl
      rw [e, z6, y6]; rfl
  have start2 : f8_beginAsTold s w μ = zb2 (zloop (fun q => f8_begin_L1 s q.1 q.2) 1000000 (0, sB (fillA (fillA (sF (sF (sF (sF (copyA μ3 (w + 12) (s + 5) 0 0 8) 813 s 0) 814 s 0) 815 s 0) 816 s 0) (s + 6) 64 (-1)) (s + 7) 64 0) 817 s true)) fun v_end_10 μ11 => zb2 (zloop (fun q => f8_begin_L2 s q.1 q.2) 1000000 (0, μ11)) fun v_b_24 μ25 => (f8_chooseTouched s μ25).bind fun μ31 => some (sB μ31 817 s false) := by
    rw [start]
    unfold f8_begin fJ_fill
    simp only [wF, wB, obs]
    generalize zloop (fun s_1 => f8_begin_L1 s s_1.fst s_1.snd) 1000000 _ = X1
    cases X1 with
    | none => rfl
    | some p =>
      obtain ⟨p1, p2⟩ := p
      rw [ozb2]
      generalize zloop (fun s_1 => f8_begin_L2 s s_1.fst s_1.snd) 1000000 _ = X2
      cases X2 with
      | none => rfl
      | some p =>
        obtain ⟨p3, p4⟩ := p
        rw [ozb2]
        cases f8_chooseTouched s p4 <;> rfl
  have h1 := h.bg nw hi hw bw
  generalize sB (fillA (fillA (sF (sF (sF (sF (copyA μ3 (w + 12) (s + 5) 0 0 8) 813 s 0) 814 s 0) 815 s 0) 816 s 0) (s + 6) 64 (-1)) (s + 7) 64 0) 817 s true = μ5 at *
  generalize hS1 : bg1 N (fun j => gA μ (w + 12) j) S = S1 at *
  have hup : ∀ n e, e < 2 * nL N → up N (sp_dm e (pfold (bgc N) n S1)) e = true := fun n e he => by
    have x1 := nw.bo_b he
    have x2 := nw.bo_b (fe_lt he)
    unfold up
    rw [dm_f, if_neg (by omega), dm_f, if_neg (by omega), dm_f, if_neg (by omega), bgc_o (by omega), bgc_o (by omega), bgc_o (by omega), ← hS1, bg40, bg20, bg20, if_pos (by omega), if_pos x1, if_pos x2]; rfl
  obtain ⟨μ6, e6, h6⟩ := lp (Q := CS N s w μ) (body := fun q => f8_begin_L1 s q.1 q.2) nI (bgc N) (2 * nL N) (S := S1) (μ := μ5) (x0 := 0) (by
    intro i μ1 hi q1
    have hu := hup i i hi
    generalize pfold (bgc N) i S1 = S2 at *
    show ∃ μ', f8_begin_L1 s (nI i) μ1 = some (.inl (nI (i + 1), μ')) ∧ CS N s w μ μ' (bgc N i S2)
    obtain ⟨μ7, e7, h7⟩ := C_dm q1 (e := i) (by omega)
    obtain ⟨μ8, e8, h8⟩ := C_clr h7 (e := i) (by omega) (ceq (nI (tE N i)) 1)
    have te := nw.te hi
    have et : bI (ceq (nI (tE N i)) 1) = nI (tE N i) := by rcases (show tE N i = 0 ∨ tE N i = 1 by omega) with x | x <;> rw [x] <;> rfl
    rw [et] at h8
    unfold f8_begin_L1
    rw [q1.c_wir, obs, q1.w_l, mulQ2, clt_nI (by omega) (by omega), decide_eq_true hi, if_pos rfl, e7, obs, rI_nI (by omega) (by omega), obs, C_up h7 hi, hu, obs, obs, if_pos rfl, h7.c_wir, obs, h7.w_te hi, obs, obs, e8, obs, obs, nI_1]
    exact ⟨μ8, rfl, h8⟩) (by
    intro μ1 q1
    show f8_begin_L1 s (nI (2 * nL N)) μ1 = _
    unfold f8_begin_L1
    rw [q1.c_wir, obs, q1.w_l, mulQ2, clt_nI (by omega) (by omega), decide_eq_false (by omega), if_neg (by decide)]) (by omega) h1
  obtain ⟨μ7, e7, h7⟩ := lp (Q := CS N s w μ) (body := fun q => f8_begin_L2 s q.1 q.2) nI bgt (nB N) (S := pfold (bgc N) (2 * nL N) S1) (μ := μ6) (x0 := 0) (by
    intro i μ1 hi q1
    generalize pfold bgt i (pfold (bgc N) (2 * nL N) S1) = S2 at *
    show ∃ μ', f8_begin_L2 s (nI i) μ1 = some (.inl (nI (i + 1), μ')) ∧ CS N s w μ μ' (bgt i S2)
    have q2 := q1.w_short (e := i) (by omega) (v := 0)
    unfold f8_begin_L2
    rw [q1.c_wir, obs, q1.w_b, clt_nI (by omega) (by omega), decide_eq_true hi, if_pos rfl, rI_nI (by omega) (by omega), obs]
    simp only [wF, obs]
    rw [wZ_nI (by omega) (by omega), obs, nI_1]
    exact ⟨_, rfl, q2.w_tch (e := i) (by omega) (v := true)⟩) (by
    intro μ1 q1
    show f8_begin_L2 s (nI (nB N)) μ1 = _
    unfold f8_begin_L2
    rw [q1.c_wir, obs, q1.w_b, clt_nI (by omega) (by omega), decide_eq_false (by omega), if_neg (by decide)]) (by omega) h6
  obtain ⟨μ8, e8, h8⟩ := C_ct h7
  refine ⟨sB μ8 817 s false, ?_, ?_⟩
  · rw [start2, e6, ozb2, e7, ozb2, e8, obs]
  · unfold xbg
    rw [hS1]
    exact h8.w_beg (v := false)
end zF2
