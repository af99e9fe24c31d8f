/-! SEND, both -/
section zL7
variable {N : zN} {x m w s B st top n k i f c p j b l t e P h : Nat} {μ0 μ μ' μ1 ν0 ν ν' ν1 M : zM} {S S' S1 X : zS} {v : Int32}
theorem R_carry (q : MS N m 0 ν ν S) (hh : h < nH N) (ht : t < nH N) (hb : b < nB N) (hb2 : S 41 h = nI b) : ∃ ν', ((wB ν 1260 m true).bind fun μ6 => (wF μ6 1261 m 0).bind fun μ7 => (wF μ7 1262 m 0).bind fun μ8 => (wF μ8 1263 m 0).bind fun μ9 => (wF μ9 1259 m 0).bind fun μ10 => (f12_its m (978 + (nI h)) μ10).bind fun t11 => ((f12_isOn m t11 μ10).bind fun t23 => if t23 = true then ((f12_learns m t11 (nI h) 6 μ10).bind fun μ24 => (wA μ24 (m + 35) 66 0 ((7 * t11) + 6)).bind fun μ25 => (wF μ25 1259 m 1).bind fun μ26 => some μ26) else (some μ10)).bind fun μ12 => zb2 (zloop (fun s => f12_send_L1 m (nI h) (nI t) s.1 s.2) 1000000 (0, μ12)) fun v_k_15 μ16 => some ((gF μ16 1261 m), μ16)) = some (nI ((fcy N h t S b).2 1 0), ν') ∧ RF N m (sB ν 1260 m true) ν' (fcy N h t S b) := by
  have nw := q.nw
  have b8 := nw.b8; have h8 := nw.h8
  have q0 : MS N m 0 (sB ν 1260 m true) (sB ν 1260 m true) S := M0.ms (q.row0.mv (fun _ _ _ => rfl) (fun _ _ _ _ => rfl) (fun _ _ _ => rfl) (fun _ => rfl) (fun _ => rfl)) q.bs (Or.inl rfl)
  have q5 : RG N m (sB ν 1260 m true) (sF (sF (sF (sF (sB ν 1260 m true) 1261 m 0) 1262 m 0) 1263 m 0) 1259 m 0) S T0f := by
    refine ⟨(((q0.wm (by omega)).wm (by omega)).wm (by omega)).wm (by omega), ⟨?_, ?_, ?_, ?_, fun k hk => absurd hk (by unfold T0f; omega)⟩, (((FrR.wf (by omega)).tr (FrR.wf (by omega))).tr (FrR.wf (by omega))).tr (FrR.wf (by omega)), ⟨by unfold T0f; omega, by unfold T0f; omega, by unfold T0f; omega, fun k hk => absurd hk (by unfold T0f; omega)⟩⟩
    · rw [gF_sF, if_pos ⟨rfl, rfl⟩]; rfl
    · rw [gF_sF, if_neg (by omega), gF_sF, if_neg (by omega), gF_sF, if_neg (by omega), gF_sF, if_pos ⟨rfl, rfl⟩]; rfl
    · rw [gF_sF, if_neg (by omega), gF_sF, if_neg (by omega), gF_sF, if_pos ⟨rfl, rfl⟩]; rfl
    · rw [gF_sF, if_neg (by omega), gF_sF, if_pos ⟨rfl, rfl⟩]; rfl
  simp only [wB, wF, obs]
  generalize sF (sF (sF (sF (sB ν 1260 m true) 1261 m 0) 1262 m 0) 1263 m 0) 1259 m 0 = ν5 at q5 ⊢
  rw [addQ978, q5.1.its (by omega), q5.1.1.2.2.2.2.2.1 h hh, hb2, obs, q5.1.on_ hb, obs]
  unfold fcy
  by_cases c : ceq (S 20 b) 1 = true
  · rw [if_pos c, if_pos c]
    obtain ⟨ν6, e6, q6⟩ := q5.lrn hb hh (v := 6) (Or.inr (Or.inl rfl))
    obtain ⟨e7, q7⟩ := R_enq (c := 7 * b + 6) q6 ⟨Nat.le_refl _, by unfold T0f; omega⟩ ⟨by omega, Or.inl (by omega)⟩
    rw [q6.2.1.1] at e7
    rw [e6, obs, show (7 : Int32) * nI b + 6 = nI (7 * b + 6) by rw [show (7 : Int32) = nI 7 from rfl, pk_mul]; exact nI_add _ 6, show wA ν6 (m + 35) 66 0 (nI (7 * b + 6)) = _ from e7, obs, obs]
    obtain ⟨r, ν8, e8, q8⟩ := R_frn (ν0 := sB ν 1260 m true) hh ht 66 0 1000000 _ (lrn b h 6 S, enq T0f (7 * b + 6)) rfl (by omega) q7
    refine ⟨ν8, ?_, q8⟩
    rw [show (0 : Int32) = nI 0 from rfl, show sF (sA ν6 (m + 35) (T0f 0 0) (nI (7 * b + 6))) 1259 m 1 = sF (sA ν6 (m + 35) (T0f 0 0) (nI (7 * b + 6))) 1259 m (nI (T0f 0 0) + 1) from rfl, e8, ozb2, q8.2.1.2.1]
  · rw [if_neg c, if_neg c, obs]
    refine ⟨ν5, ?_, q5⟩
    have o : f12_send_L1 m (nI h) (nI t) 0 ν5 = some (.inr (0, ν5)) := by
      unfold f12_send_L1
      rw [q5.2.1.1, show clt 0 (nI (T0f 0 0)) = false from rfl, if_neg (by simp)]
    rw [zloop_out (by omega) o, ozb2, q5.2.1.2.1]
theorem JJ.snd (h : JJ N S st w x m top μ ν) (cs : CS N (x + 51) w μ' μ' S') (A : ∀ a, (a < x + 14 ∨ x + 17 ≤ a) → (a < x + 51 ∨ x + 312 ≤ a) → SA a μ μ') (m0 : M0 N m 0 ν' S') (F : ∀ k, k < 1259 ∨ 1263 < k → gF ν' k m = gF ν k m) (Bf : ∀ k, k ≠ 1260 → gB ν' k m = gB ν k m) (Am : ∀ a j, a ≠ m + 24 → a ≠ m + 35 → a ≠ m + 26 → a ≠ m + 27 → gA ν' a j = gA ν a j) (iv : INV N st S') (k : K46 S S') (t0 : T0 N S') (fm : FM x m μ' ν') : JJ N S' st w x m top μ' ν' := by
  have hw := h.ww
  obtain ⟨⟨_, wr, sw, _, _, s0, s9, _, bg⟩, td, r5, fz, sg, _, ps, ol, ht⟩ := h
  have W := A w (by omega) (by omega)
  have hx0 := A x (by omega) (by omega)
  exact ⟨⟨cs, by rw [hx0.2.2.1]; exact wr, by rw [hx0.2.2.1]; exact sw, m0, iv, k.2.trans s0, s9, t0, k.1.trans bg⟩, ⟨by rw [W.2.1, Bf _ (by omega)]; exact td.1, by rw [W.2.1]; exact td.2⟩, r5.mv (fun k _ => hx0.1 k) (fun a ha => A a (by omega) (by omega)) (fun k hk => F k (by omega)) (fun a j ha => Am a j (by omega) (by omega) (by omega) (by omega)), fz.mv (fun a h1 h2 => A a (by omega) (by omega)), sg.mv (fun k _ => (A _ (by omega) (by omega)).1 k) (A _ (by omega) (by omega)) (F _ (by omega)) (F _ (by omega)) (fun j => Am _ _ (by omega) (by omega) (by omega) (by omega)) (fun j => Am _ _ (by omega) (by omega) (by omega) (by omega)), fm, ps.mv hx0 (A _ (by omega) (by omega)) (fun a ha => A a (by omega) (by omega)) (fun a h1 h2 => A a (by omega) (by omega)) (F _ (by omega)) (fun j => Am _ _ (by omega) (by omega) (by omega) (by omega)), fun j hj => by rw [Am _ _ (by omega) (by omega) (by omega) (by omega)]; exact ol j hj, ht⟩
theorem q_send (h : JR x m top μ ν) (a c : Int32) : ∃ r b μ' ν', f11_send x top a c μ = some (r, b, μ') ∧ f12_send m a c ν = some (r, ν') ∧ JR x m (topN b top) μ' ν' := by
  obtain ⟨N, S, st, w, h⟩ := h
  have nw := h.1.nw
  have hw := h.ww
  have b8 := nw.b8; have h8 := nw.h8
  have h1 := h.b1
  have q := h.b0
  unfold f11_send f12_send
  rw [show wF ν 1244 m 0 = some (sF ν 1244 m 0) from rfl, obs]
  generalize sF ν 1244 m 0 = ν1 at h1 q ⊢
  obtain ⟨μr, νr, u1, u2, u3⟩ := rf_int (k := 4) h1 (by omega)
  rw [R_isH q, R_isH q, show (4 : Int32) = nI 4 from rfl, u1, u2]
  simp only [h.1.wr, obs, ozb2]
  rw [C_isH h.1.cs, C_isH h.1.cs]
  simp only [obs]
  have ref : ∃ r b μ' ν', (some (-1, false, μr) : Option (Int32 × Bool × zM)) = some (r, b, μ') ∧ (some (-1, νr) : Option (Int32 × zM)) = some (r, ν') ∧ JR x m (topN b top) μ' ν' := ⟨_, false, _, _, rfl, rfl, u3⟩
  rcases rngC (nH N) (by omega) a with ⟨g, hg, rfl⟩ | ⟨_, e⟩
  · rcases rngC (nH N) (by omega) c with ⟨d, hd, rfl⟩ | ⟨_, e⟩
    · rw [rngT (by omega) hg, rngT (by omega) hd]
      simp only [Bool.not_true, Bool.false_eq_true, ↓reduceIte, obs]
      cases c3 : ceq (nI g) (nI d) with
      | true => exact ref
      | false =>
        simp only [Bool.false_eq_true, ↓reduceIte]
        obtain ⟨b, μ2, ν2, e3, e4, hJ, hb⟩ := kp_both h1
        obtain ⟨bb, hbb, hb2⟩ := hJ.1.m0.2.1.2 g hg
        obtain ⟨ν3, e5, q5⟩ := R_carry (hJ.ms hb) hg hd hbb hb2
        have ho : Out (x + 14) 3 (x + 51) w := ⟨by omega, by omega⟩
        obtain ⟨μ3, e6, μ5, q6, d6, g6⟩ := C_carry (o := x + 14) (t := d) hJ.1.cs ho hg (by omega) hbb hb2
        obtain ⟨iv, lr⟩ := fcy_inv (t := d) nw hJ.1.inv hJ.1.m0.2.1.1 (show g < 8 by omega) (by omega) hbb
        rw [e3, ozb2, e6, obs, e4, obs, e5, q6.2.1.2.1]
        refine ⟨_, b, μ3, ν3, rfl, rfl, _, _, _, _, hJ.snd q6.1 (fun a h1 h2 => (d6 a (by omega)).tr (q6.2.2.1.1 a (by omega) (by omega))) q5.1.row0 (fun k hk => q5.2.2.1.1 k m (by omega)) (fun k hk => ?_) (fun a j h1 h2 h3 h4 => q5.2.2.1.2.2.2.1 a j (by omega) h2 h3 h4) iv ⟨lr _ _ (by omega) (by omega), lr _ _ (by omega) (by omega)⟩ (fun b hb => by rw [lr _ _ (by omega) (by omega)]; exact hJ.1.t0 b hb) ⟨?_, fun _ => ⟨?_, ?_, ?_⟩⟩⟩
        · rw [q5.2.2.1.2.1, gB_sB, if_neg (by omega)]
        · rw [q6.2.2.1.2, g6, q5.2.2.1.2.1, gB_sB, if_pos ⟨rfl, rfl⟩]
        · rw [q6.2.1.2.1, q5.2.1.2.1]
        · rw [q6.2.1.2.2.1, q5.2.1.2.2.1]
        · rw [q6.2.1.2.2.2.1, q5.2.1.2.2.2.1]
          have t1 := q5.2.2.2.2.2.1
          generalize (fcy N g d S bb).2 3 0 = t at t1 ⊢
          have : t = 0 ∨ t = 1 := by omega
          rcases this with rfl | rfl <;> rfl
    · rw [rngT (by omega) hg, e]
      exact ref
  · rw [e]
    exact ref
end zL7
