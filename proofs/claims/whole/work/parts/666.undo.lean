/-! UNDO, both -/
section zL6
variable {N : zN} {x m w s B st top n k i f c p j b l t e P : Nat} {μ0 μ μ' μ1 ν0 ν ν' ν1 M : zM} {S S' S1 X : zS} {v : Int32}
theorem JJ.pop (h : JJ N S st w x m top μ ν) (f20 : f < 20) (c20 : c < 20) (a3 : gF μ 1114 x = nI f) (a6 : ∀ k, k < c → PSk N x m w μ ν f k) : JJ N S st w x m top (sF μ 1115 x (nI c)) (sF ν 1245 m (nI c)) := by
  have hw := h.ww
  obtain ⟨⟨cs, wr, sw, m0, inv, s0, s9, t0, bg⟩, td, r5, fz, sg, fm, ⟨hb, _⟩, ol, ht⟩ := h
  have A : ∀ a, a ≠ x → SA a μ (sF μ 1115 x (nI c)) := fun a ha => ⟨fun k => by rw [gF_sF, if_neg (by omega)], fun _ => rfl, fun _ => rfl, fun _ => rfl, fun _ => rfl, fun _ => rfl⟩
  have F : ∀ k, k ≠ 1245 → gF (sF ν 1245 m (nI c)) k m = gF ν k m := fun k hk => by rw [gF_sF, if_neg (by omega)]
  exact ⟨⟨cs.mv (fun a h1 h2 => A a (by omega)) (fun a h1 h2 => A a (by omega)), wr, sw, m0.mv (fun k h1 h2 => F k (by omega)) (fun _ _ _ _ => rfl) (fun _ _ _ => rfl) (fun _ => rfl) (fun _ => rfl), inv, s0, s9, t0, bg⟩, td, r5.mv (fun k hk => by rw [gF_sF, if_neg (by omega)]) (fun a ha => A a (by omega)) (fun k hk => F k (by omega)) (fun _ _ _ => rfl), fz.mv (fun a h1 h2 => A a (by omega)), sg.mv (fun k hk => (A (x + 17) (by omega)).1 k) (A (x + 18) (by omega)) (F _ (by omega)) (F _ (by omega)) (fun _ => rfl) (fun _ => rfl), fm.mv (A _ (by omega)) (fun k h1 h2 => F k (by omega)) rfl, ⟨hb.mv (A _ (by omega)) (fun a ha => A a (by omega)), f, c, f20, by omega, by rw [gF_sF, if_neg (by omega)]; exact a3, by rw [gF_sF, if_pos ⟨rfl, rfl⟩], by rw [gF_sF, if_pos ⟨rfl, rfl⟩], fun k hk => (a6 k hk).mv hb (A _ (by omega)) (fun a ha => A a (by omega)) (fun a h1 h2 => A a (by omega)) (fun _ _ => rfl)⟩, ol, ht⟩
theorem KR.ms (h : KR N m c ν S) (nw : NW N) (ri : RI N m ν) (so : SO N S) (hb : gF ν 1244 m = nI 0) : MS N m 0 ν (cpW ν (m + 25) (m + 24) (2874 * c) 0 2874) (hi38 ν m S) := by
  obtain ⟨R, r1, r2⟩ := h
  refine ⟨?_, ⟨fun b x hb hx => by rw [hi38_f (by omega) (by omega)]; exact so.1 b x hb hx, fun x hx => by rw [hi38_f (by omega) (by omega)]; exact so.2 x hx⟩, ⟨nw, ri, hb, Or.inl rfl⟩, ⟨fun _ _ => rfl, fun _ _ => rfl, fun _ _ => rfl, fun a j h1 h2 h3 => by rw [gA_cpW, if_neg (by omega)], fun _ _ => rfl, fun _ _ => rfl⟩⟩
  have r3 : MR N (fun k => if k < 3000 then rw_ m 0 (cpW ν (m + 25) (m + 24) (2874 * c) 0 2874) k else R k) S := r2.ro nw (fun k hk => by
    by_cases c : k < 3000
    · rw [if_pos c, rw_lo c, gA_cpW, if_pos (by omega), r1 k (by omega)]
      exact congrArg (gA ν (m + 25)) (by omega)
    · rw [if_neg c])
  refine r3.hi nw (fun k hk => by rw [if_pos hk]) (fun f i h1 h2 _ _ _ _ => hi38_f h2 h1) ⟨fun k hk => ?_, fun b hb => ?_⟩
  · unfold rw_
    rw [if_neg (by omega), if_pos (by omega), Nat.add_sub_cancel_left, gA_cpW, if_neg (by omega)]; rfl
  · unfold rw_
    rw [if_neg (by omega), if_neg (by omega), Nat.add_sub_cancel_left, gA_cpW, if_neg (by omega)]; rfl
theorem q_undo (h : JR x m top μ ν) : ∃ r b μ' ν', f11_undo x top μ = some (r, b, μ') ∧ f12_undo m ν = some (r, ν') ∧ JR x m (topN b top) μ' ν' := by
  obtain ⟨N, S, st, w, h⟩ := h
  have nw := h.1.nw
  have hw := h.ww
  obtain ⟨hb, f, c, f20, c20, a3, a4, a5, a6⟩ := h.2.2.2.2.2.2.1
  obtain ⟨μr, νr, u1, u2, u3⟩ := rf_bool (k := 4) h (by omega)
  unfold f11_undo f12_undo
  rw [a4, a5, show ceq (nI c) 0 = decide (c = 0) from ceq_nI (by omega) (b := 0) (by omega), show (4 : Int32) = nI 4 from rfl, u1, u2, ozb2, ozb2]
  cases c with
  | zero => exact ⟨false, false, μr, νr, rfl, rfl, u3⟩
  | succ c =>
    rw [decide_eq_false (by omega), if_neg (by decide), if_neg (by decide), show nI (c + 1) - 1 = nI c from by rw [← nI_1, Int32.add_sub_cancel]]
    have h1 := h.pop (c := c) f20 (by omega) a3 (fun k hk => a6 k (by omega))
    obtain ⟨p, Sk, sk, y1, y2, y3, y4, y5, y6, y7, y8, y9⟩ := a6 c (by omega)
    obtain ⟨b1, b2, b3⟩ := hb.1 _ p (by omega) y1
    have A : ∀ a, a ≠ x → SA a μ (sF μ 1115 x (nI c)) := fun a ha => ⟨fun k => by rw [gF_sF, if_neg (by omega)], fun _ => rfl, fun _ => rfl, fun _ => rfl, fun _ => rfl, fun _ => rfl⟩
    have y2' : CS N p w (sF μ 1115 x (nI c)) (sF μ 1115 x (nI c)) Sk := y2.mv (fun a h1 h2 => A a (by omega)) (fun a h1 h2 => A a (by omega))
    have y4' : KR N m c (sF (sF ν 1245 m (nI c)) 1244 m 0) Sk := y4.mv (fun _ _ => rfl)
    have h2 := h1.b1
    have L : zloop (fun s => f12_undo_L1 m s.1 s.2) 1000000 (0, sF ν 1245 m (nI c)) = some (nI 2874, cpW (sF ν 1245 m (nI c)) (m + 25) (m + 24) (2874 * c) 0 2874) := by
      have h45 : gF (sF ν 1245 m (nI c)) 1245 m = nI c := by rw [gF_sF, if_pos ⟨rfl, rfl⟩]
      generalize sF ν 1245 m (nI c) = ν at h45 ⊢
      refine lpR (μ := ν) (s := m + 25) (d := m + 24) (E := 2874 * c) (D := 0) (body := fun s => f12_undo_L1 m s.1 s.2) 2874 (by omega) (fun k hk => Or.inl (by omega)) (fun k hk => ?_) ?_
      · show f12_undo_L1 m (nI k) _ = _
        have z : (0 : Int32) + nI k = nI (0 + k) := by rw [← nI_add]; rfl
        unfold f12_undo_L1
        rw [show clt (nI k) 2874 = true from by rw [show (2874 : Int32) = nI 2874 from rfl, clt_nI (by omega) (by omega), decide_eq_true hk], if_pos rfl, z, show gF (cpW ν (m + 25) (m + 24) (2874 * c) 0 k) 1245 m = nI c from h45, show (2874 : Int32) * nI c + nI k = nI (2874 * c + k) by rw [show (2874 : Int32) = nI 2874 from rfl, pk_mul, nI_add], rA_nI (by omega) (by omega), obs, wA_nI (by omega) (by omega), obs, obs, nI_1]
      · show f12_undo_L1 m (nI 2874) _ = _
        unfold f12_undo_L1
        rw [show clt (nI 2874) 2874 = false from by decide, if_neg (by decide)]
    simp only [wF, obs]
    rw [L, ozb2, show gF (sF μ 1115 x (nI c)) 1114 x = nI f from by rw [gF_sF, if_neg (by omega)]; exact a3, show gF (sF μ 1115 x (nI c)) 1115 x = nI c from by rw [gF_sF, if_pos ⟨rfl, rfl⟩], nI_add, show (20 : Int32) = nI 20 from rfl, iRem_nI (by omega) (by omega) (by omega), obs, rI_nI (by omega) (by omega), obs, show gX (sF μ 1115 x (nI c)) (x + 2) ((f + c) % 20) = some p from y1, obs]
    have ms := y4'.ms nw h2.1.m0.2.2.2 y3 (by rw [gF_sF, if_pos ⟨rfl, rfl⟩]; rfl)
    generalize sF μ 1115 x (nI c) = μ1 at h1 h2 y2' ⊢
    generalize sF ν 1245 m (nI c) = ν1 at h1 h2 y4' ms ⊢
    have i8 := y5.h8 (fun f i h1 h2 => hi38_f (ν := sF ν1 1244 m 0) (m := m) h1 h2)
    have ms2 := cp_ms (μ := μ1) (t := x + 51) ms i8.2.1 (by rw [hi38_f (by omega) (by omega), y9]; decide)
    have cs0 : CS N p w μ1 μ1 (hi38 (sF ν1 1244 m 0) m Sk) := y2'.ig (fun f i hf => hi38_f (by unfold csF at hf; omega) (by unfold csF at hf; omega))
    obtain ⟨μ', e, q⟩ := C_copy (t := x + 51) cs0 (by omega) (by omega) h1.1.cs.c_num
    rw [e, obs]
    have hJ := h2.act q ms2 (cp_inv i8) (by rw [cp_f (by omega) (by omega) (by omega), hi38_f (by omega) (by omega)]; exact y6) y7 (fun b hb => by
      have b8 := nw.b8
      show bI (gZ μ1 (x + 51 + 9) b) = 0
      rw [h1.1.cs.r_tch (by omega), h1.1.t0 b hb]; rfl) (cp_46 (by rw [h1.1.cs.r_beg, h1.1.bg]; rfl))
    exact ⟨true, false, μ', _, rfl, rfl, _, _, _, _, hJ.ee FE.rf ⟨fun k hk => by
      show gF ν1 k m = gF (sF ν1 1244 m 0) k m
      rw [gF_sF, if_neg (by omega)], fun _ => rfl, fun _ _ _ => rfl⟩ (hJ.2.2.1.mv (fun _ _ => rfl) (fun _ _ => SA.rf) (fun k hk => by
      show gF ν1 k m = gF (sF ν1 1244 m 0) k m
      rw [gF_sF, if_neg (by omega)]) (fun _ _ _ => rfl))⟩
end zL6
