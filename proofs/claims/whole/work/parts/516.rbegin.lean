/-! A NET BEGINS, in the reference: as in the class -/
def s38 (N : zN) (m : Nat) (ν : zM) (S : zS) : zS := fun f i => if f = 38 then (if i < nB N then 1 else gA ν (m + 26) i) else if f = 48 then gA ν (m + 27) i else S f i
section zF6
variable {N : zN} {m B : Nat} {ν0 ν ν' : zM} {S S' Z : zS} {e b l h k n f i j : Nat} {v : Int32} {H : Nat → Int32}
theorem s38_f (h1 : f ≠ 38) (h2 : f ≠ 48) : s38 N m ν S f i = S f i := by unfold s38; rw [if_neg h1, if_neg h2]
theorem rbg_f : rbg N Z f i = if f = 38 ∧ i < nB N then 1 else if i / 2 < nL N ∧ (f ≤ 10 ∨ f = 15 ∨ f = 16 ∨ f = 49) then (if f = 5 then nI (tE N i) else 0) else if f = 41 ∧ i < nH N then nI (tHm N i) else if f = 40 ∧ i < nL N then 1 else if f = 20 ∧ i < nB N then 1 else if f = 21 ∧ i < nB N then nI (tPr N i) else if f = 22 ∧ i < nB N then nI (tOl N i) else Z f i := by
  unfold rbg
  rw [pf_zu (g := 38) (fun _ => 1), rb4_f, pf_zu (g := 41) (fun h => nI (tHm N h)), pf_zu (g := 40) (fun _ => 1), rb1_f]
theorem MS.told (q : MS N m B ν0 ν S) (h43 : S 44 3 = 0) : MS N m B ν0 (sA ν (m + 24) (B + 3) 0) (zu S 46 0 0) := by
  have b8 := q.nw.b8
  have l14 := q.nw.l14
  have h8 := q.nw.h8
  have g : ∀ k', k' ≠ 3 → rw_ m B (sA ν (m + 24) (B + 3) 0) k' = rw_ m B ν k' := fun k' hk' => by rw [rw_w _ _ _ _ _ _ (by omega), if_neg hk']
  have z : ∀ f i, f ≠ 46 → zu S 46 0 0 f i = S f i := fun f i hf => if_neg (fun x => hf x.1)
  obtain ⟨⟨m1, m2, m3, m4, m5, m6, m7, m8, m9, m10, mw, m11⟩, hso, hmt, hfr⟩ := q
  have nw := hmt.1
  refine ⟨⟨?_, ?_, ?_, ?_, ?_, ?_, ?_, ?_, ?_, ?_, ?_, ?_⟩, ?_, hmt, hfr.wA (by omega)⟩
  · intro e' k' he' hk' hh
    have hp' := nw.pl_48 he'
    rw [z 10 _ (by omega)] at hh
    rw [g _ (by omega), z _ _ (by omega)]; exact m1 e' k' he' hk' hh
  · intro e' k' he' h4 h5
    rw [z _ _ (by omega)]; exact m2 e' k' he' h4 h5
  · intro b' k' hb' hk' hc
    have := nw.b_8 hb'
    rw [z 32 b' (by omega)] at hc
    rw [g _ (by omega), z _ _ (by omega)]; exact m3 b' k' hb' hk' hc
  · intro b' hb'; rw [z _ _ (by omega), z _ _ (by omega)]; exact m4 b' hb'
  · intro l' hl'; rw [z _ _ (by omega), g _ (by omega)]; exact m5 l' hl'
  · intro h' hh'; rw [z _ _ (by omega), g _ (by omega)]; exact m6 h' hh'
  · intro b' h' hb' hh'; have := nw.b_8 hb'; rw [z _ _ (by omega), z _ _ (by omega), g _ (by omega), g _ (by omega)]; exact m7 b' h' hb' hh'
  · intro b' h' hb' h1 h2; rw [z _ _ (by omega)]; exact m8 b' h' hb' h1 h2
  · rw [g _ (by omega), g _ (by omega), z _ _ (by omega), z _ _ (by omega)]; exact m9
  · refine ⟨0, by omega, ?_, fun _ => ⟨?_, fun k hk => absurd hk (by omega)⟩⟩
    · rw [rw_w _ _ _ _ _ _ (by omega), if_pos rfl]; rfl
    · rw [z _ _ (by omega), h43]; rfl
  · exact ⟨fun k hk => by rw [g _ (by omega), z _ _ (by omega)]; exact mw.1 k hk, fun b hb => by rw [g _ (by omega), z _ _ (by omega)]; exact mw.2 b hb⟩
  · exact m11.keep (g _ (by omega)) (fun k hk => g _ (by omega)) (fun c q h1 h2 _ => z _ _ (by omega))
  · exact ⟨fun b h hb hh => by rw [z _ _ (by omega)]; exact hso.1 b h hb hh, fun h hh => by rw [z _ _ (by omega)]; exact hso.2 h hh⟩
theorem INV.z46 {x : Int32} (hI : INV N k S) : INV N k (zu S 46 0 x) := by
  obtain ⟨⟨sv, dn, br⟩, mi, ad⟩ := hI
  refine ⟨⟨sv, fun e he hu k hk => ?_, br⟩, mi, ad⟩
  rw [show zu S 46 0 x k e = S k e from if_neg (by omega)]
  exact dn e he hu k hk
theorem R_begin (hb : gF ν 1244 m = nI 0) (nw : NW N) (ri : RI N m ν) (hH : ∀ h, h < nH N → H h = nI (tHm N h)) (sv : SV S) : ∃ S1, (∀ f i, csF f → S1 f i = S f i) ∧ (∃ ν', ((f12_clears m ν).bind fun μ15 => zb2 (zloop (fun s => f12_net_L1 m s.1 s.2) 1000000 (0, μ15)) fun v_b_18 μ19 => zb2 (zloop (fun s => f12_net_L2 m s.1 s.2) 1000000 (0, μ19)) fun v_l_31 μ32 => zb2 (zloop (fun s => f12_net_L3 m s.1 s.2) 1000000 (0, μ32)) fun v_h_37 μ38 => f12_allBegin m μ38) = some ν' ∧ MS N m 0 ν ν' (zu (sp_ct N (xbg N H S1)) 46 0 0)) ∧ INV N 0 (zu (sp_ct N (xbg N H S1)) 46 0 0) ∧ T0 N (zu (sp_ct N (xbg N H S1)) 46 0 0) ∧ zu (sp_ct N (xbg N H S1)) 46 0 0 44 0 = 0 := by
  have b8 := nw.b8; have l14 := nw.l14; have h8 := nw.h8
  have sv1 : SV (s38 N m ν S) := fun i => by
    rw [s38_f (f := 2) (by omega) (by omega), s38_f (f := 3) (by omega) (by omega), s38_f (f := 27) (by omega) (by omega), s38_f (f := 10) (by omega) (by omega), s38_f (f := 16) (by omega) (by omega)]
    exact sv i
  obtain ⟨p1, p2, p3⟩ := xb_inv (H := H) nw sv1
  obtain ⟨i1, i2, i3⟩ := ct_inv nw p1 p2 p3
  have fz := (xb_fz (N := N) (H := H) (S := s38 N m ν S)).ct (N := N)
  refine ⟨s38 N m ν S, fun f i hf => s38_f (by unfold csF at hf; omega) (by unfold csF at hf; omega), ?_, i1.z46, i2, ?_⟩
  · obtain ⟨ν1, e1, q1⟩ := R_zero hb nw ri
    obtain ⟨ν2, e2, q2⟩ := R_b1 q1
    obtain ⟨ν3, e3, q3⟩ := R_b2 q2
    obtain ⟨ν4, e4, q4⟩ := R_b3 q3
    obtain ⟨ν5, e5, q5⟩ := R_b4 q4 (fun l hl => by
      have x1 := nw.bo_b (show 2 * l < 2 * nL N by omega)
      have x2 := nw.bo_b (show 2 * l + 1 < 2 * nL N by omega)
      unfold upl
      rw [pf_zu (g := 41) (fun h => nI (tHm N h)), if_neg (by omega), pf_zu (g := 40) (fun _ => 1), if_pos ⟨rfl, hl⟩, pf_zu (g := 41) (fun h => nI (tHm N h)), if_neg (by omega), pf_zu (g := 40) (fun _ => 1), if_neg (by omega), rb1_f, if_pos ⟨rfl, x1⟩, pf_zu (g := 41) (fun h => nI (tHm N h)), if_neg (by omega), pf_zu (g := 40) (fun _ => 1), if_neg (by omega), rb1_f, if_pos ⟨rfl, x2⟩]; rfl)
    obtain ⟨ν6, e6, q6⟩ := R_b5 q5
    have q6 : MS N m 0 ν ν6 (rbg N (Zw ν m)) := q6
    have x32 : ∀ b, ¬ xbg N H (s38 N m ν S) 32 b = 1 := fun b h => by
      rw [xb_o (by omega) (by omega) (by omega) (by omega)] at h
      exact absurd h (show ¬ (0 : Int32) = 1 by decide)
    have lx : lS (xbg N H (s38 N m ν S)) = [] := by
      have e : xbg N H (s38 N m ν S) 63 0 = 0 := by rw [xb_o (by omega) (by omega) (by omega) (by omega)]; rfl
      unfold lS
      rw [e]; rfl
    have lr : lS (rbg N (Zw ν m)) = [] := by
      have e : rbg N (Zw ν m) 63 0 = 0 := by rw [rbg_f, if_neg (by omega), if_neg (by omega), if_neg (by omega), if_neg (by omega), if_neg (by omega), if_neg (by omega), if_neg (by omega)]; rfl
      unfold lS
      rw [e]; rfl
    have zr : ∀ f i, 22 < f ∧ f ≠ 38 ∧ f ≠ 40 ∧ f ≠ 41 ∧ f ≠ 49 → rbg N (Zw ν m) f i = Zw ν m f i := fun f i hf => by
      rw [rbg_f, if_neg (by omega), if_neg (by omega), if_neg (by omega), if_neg (by omega), if_neg (by omega), if_neg (by omega), if_neg (by omega)]
    have q7 : MS N m 0 ν ν6 (xbg N H (s38 N m ν S)) := by
      refine MS.rng q6 ⟨fun b h hb hh => Or.inl (by rw [xb_fz.1]), fun h hh => ⟨tHm N h, nw.hm hh, ?_⟩⟩ (fun e k he hk hx => ?_) (fun b k hb hk hx => ?_) (fun b hb hx => absurd hx (x32 b)) (fun l hl => ?_) (fun h hh => ?_) (fun b h hb hh => ⟨?_, ?_⟩) (fun b h hb h1 h2 => by rw [xb_fz.1]) ⟨?_, ?_⟩ (fun hx => absurd xb_fz.2.2.2 hx) ⟨fun k hk => ?_, fun b hb => ?_⟩ (by rw [lx, lr]) (fun q hq => ?_) (fun q c hq => by rw [lr] at hq; exact absurd hq List.not_mem_nil)
      · rw [xb_o (by omega) (by omega) (by omega) (by omega), bg41, if_pos (by omega)]; exact hH h hh
      · by_cases c : k ≤ 10
        · rw [xb_k (by omega) he, rbg_f, if_neg (show ¬ (k = 38 ∧ e < nB N) by omega), if_pos (show e / 2 < nL N ∧ (k ≤ 10 ∨ k = 15 ∨ k = 16 ∨ k = 49) from ⟨by omega, Or.inl c⟩)]
        · have := hx (by omega)
          rw [xb_k (f := 10) (by omega) he, if_neg (by omega)] at this
          exact absurd this (by decide)
      · by_cases c3 : 3 ≤ k ∧ k ≤ 6
        · exact absurd (hx c3.1 c3.2) (x32 b)
        · by_cases k0 : k = 0
          · subst k0
            rw [xb_o (by omega) (by omega) (by omega) (by omega), bg20, if_pos hb, rbg_f, if_neg (by omega), if_neg (by omega), if_neg (by omega), if_neg (by omega), if_pos (by omega)]
          · by_cases k1 : k = 1
            · subst k1
              rw [xb_o (by omega) (by omega) (by omega) (by omega), bg21, if_pos hb, rbg_f, if_neg (by omega), if_neg (by omega), if_neg (by omega), if_neg (by omega), if_neg (by omega), if_pos (by omega)]
            · by_cases k2 : k = 2
              · subst k2
                rw [xb_o (by omega) (by omega) (by omega) (by omega), bg22, if_pos hb, rbg_f, if_neg (by omega), if_neg (by omega), if_neg (by omega), if_neg (by omega), if_neg (by omega), if_neg (by omega), if_pos (by omega)]
              · rw [zr _ _ (by omega), Zw_f (by omega) (by omega), Zc_0 (by omega) (by omega)]
                by_cases k7 : k = 7
                · subst k7; rw [xb_27, if_pos hb]
                · rw [xb_o (by omega) (by omega) (by omega) (by omega)]
                  unfold bg1
                  rw [if_neg (by omega), if_neg (by omega), if_neg (by omega), if_neg (by omega), if_neg (by omega), if_neg (by omega), if_neg (by omega), if_neg (by omega), if_neg (by omega), if_pos (by omega)]
      · rw [xb_o (by omega) (by omega) (by omega) (by omega), bg40, if_pos hl, rbg_f, if_neg (by omega), if_neg (by omega), if_neg (by omega), if_pos ⟨rfl, hl⟩]
      · rw [xb_o (by omega) (by omega) (by omega) (by omega), bg41, if_pos (by omega), rbg_f, if_neg (by omega), if_neg (by omega), if_pos ⟨rfl, hh⟩]; exact hH h hh
      · rw [xb_fz.1, zr _ _ (by omega)]; rfl
      · rw [xb_o (by omega) (by omega) (by omega) (by omega), zr _ _ (by omega)]; rfl
      · rw [xb_o (by omega) (by omega) (by omega) (by omega), zr _ _ (by omega)]; rfl
      · rw [xb_o (by omega) (by omega) (by omega) (by omega), zr _ _ (by omega)]; rfl
      · rw [xb_o (by omega) (by omega) (by omega) (by omega), bg1_o (by omega), zr _ _ (by omega)]; rfl
      · rw [xb_o (by omega) (by omega) (by omega) (by omega), bg1_o (by omega), rbg_f]
        show (if b < nB N then 1 else gA ν (m + 26) b) = _
        by_cases c : b < nB N
        · rw [if_pos c, if_pos ⟨rfl, c⟩]
        · rw [if_neg c, if_neg (fun x => c x.2), if_neg (by omega), if_neg (by omega), if_neg (by omega), if_neg (by omega), if_neg (by omega), if_neg (by omega)]; rfl
      · rw [xb_o (by omega) (by omega) (by omega) (by omega), zr _ _ (by omega)]; rfl
    obtain ⟨ν7, e7, q8⟩ := R_all q7 p1 (fun b hb => by
      rw [xb_47, if_pos hb, xb_o (by omega) (by omega) (by omega) (by omega), bg1_o (by omega)]
      show ceq (if b < nB N then 1 else gA ν (m + 26) b) 1 = _
      rw [if_pos hb])
    have q9 := q8.told fz.2.2.1
    have q10 := q9.w_f (v := 0)
    have ez : zu (zu (sp_ct N (xbg N H (s38 N m ν S))) 46 0 0) 44 1 0 = zu (sp_ct N (xbg N H (s38 N m ν S))) 46 0 0 := by
      funext f i
      unfold zu
      by_cases c : f = 44 ∧ i = 1
      · rw [if_pos c, if_neg (by omega), c.1, c.2]; exact fz.2.1.symm
      · rw [if_neg c]
    rw [ez] at q10
    refine ⟨_, ?_, q10⟩
    rw [e1, obs, e2, ozb2, e3, ozb2, e4, ozb2]
    unfold f12_allBegin
    rw [e5, ozb2, e6, ozb2, e7, obs, show f12_puts m 3 0 ν7 = some (sA ν7 (m + 24) (0 + 3) 0) from q8.puts (k := 3) (by omega), obs, show f12_puts m 1 0 (sA ν7 (m + 24) (0 + 3) 0) = some (sA (sA ν7 (m + 24) (0 + 3) 0) (m + 24) (0 + 1) 0) from q9.puts (k := 1) (by omega), obs]
  · show zu (sp_ct N (xbg N H (s38 N m ν S))) 46 0 0 44 0 = 0
    rw [show zu (sp_ct N (xbg N H (s38 N m ν S))) 46 0 0 44 0 = sp_ct N (xbg N H (s38 N m ν S)) 44 0 from if_neg (by omega), i3 44 0 (by omega), xb_o (by omega) (by omega) (by omega) (by omega)]; rfl
end zF6
