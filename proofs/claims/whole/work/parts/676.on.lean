/-! ON, both -/
section zM6
variable {N : zN} {x m w s B st top n k i f c p j b l t e P h : Nat} {μ0 μ μ' μ1 ν0 ν ν' ν1 M : zM} {S S' S1 X Z : zS} {v : Int32} {U : Nat → Bool} {g : Nat → Nat}
theorem C_on2 (h : CS N (x + 51) w μ μ S) (hr : gR μ 1111 x = some w) (ok : OKI N g) (hg : ∀ j, j < 1600 → gA μ (x + 1) j = nI (g j)) : ∃ μ', (zb3 (zloop (fun s => f11_on_L1 x s.1 s.2.1 s.2.2) 1000000 (0, 0, μ)) fun v_at_9 v_b_10 μ11 => zb3 (zloop (fun s => f11_on_L2 x s.1 s.2.1 s.2.2) 1000000 (v_at_9, 0, μ11)) fun v_at_29 v_link_30 μ31 => zb3 (zloop (fun s => f11_on_L3 x s.1 s.2.1 s.2.2) 1000000 (v_at_29, 0, μ31)) fun v_at_41 v_host_42 μ43 => (f8_begin (x + 51) μ43).bind fun μ49 => (wF μ49 1115 x 0).bind fun μ50 => some (true, μ50)) = some (true, sF μ' 1115 x 0) ∧ CS N (x + 51) w μ μ' (zu (sp_ct N (ybg N (up N (imS N g S)) (imS N g S))) 46 0 0) := by
  obtain ⟨μ1, e1, q1⟩ := C_o1 h hr ok hg
  obtain ⟨μ2, e2, q2⟩ := C_o2 q1 hr ok hg
  obtain ⟨μ3, e3, q3⟩ := C_o3 q2 hr ok hg
  have q3 : CS N (x + 51) w μ μ3 (imS N g S) := q3
  obtain ⟨μ4, e4, q4⟩ := C_begin2 q3
  refine ⟨μ4, ?_, q4⟩
  have z : ∀ {α : Type} (a b : Int32) (c : zM) (f : Int32 → Int32 → zM → Option α), zb3 (some (a, b, c)) f = f a b c := fun _ _ _ _ => rfl
  rw [e1, z, e2, z, e3, z, e4, obs]
  rfl
theorem q_on (h : JR x m top μ ν) : ∃ r μ' ν', f11_on x μ = some (r, μ') ∧ f12_on m ν = some (r, ν') ∧ JR x m top μ' ν' := by
  obtain ⟨N, S, st, w, h⟩ := h
  have nw := h.1.nw
  obtain ⟨n, t1, t2, t3⟩ := h.2.2.1.1.1
  have h1 := h.tp (n := 0) (by omega)
  have k1 : f11_takeTape x μ = some (nI n, sF μ 1113 x (nI 0)) := by unfold f11_takeTape; rw [t2]; rfl
  have k2 : f12_taken m ν = some (nI n, sF ν 1232 m (nI 0)) := by unfold f12_taken; rw [t3]; rfl
  unfold f11_on f12_on
  rw [k1, k2, ozb2, ozb2]
  generalize sF μ 1113 x (nI 0) = μ1 at h1 ⊢
  generalize sF ν 1232 m (nI 0) = ν1 at h1 ⊢
  obtain ⟨μr, νr, u1, u2, u3⟩ := rf_bool (k := 5) h1 (by omega)
  have ref : ∃ r μ' ν', (some (false, μr) : Option (Bool × zM)) = some (r, μ') ∧ (some (false, νr) : Option (Bool × zM)) = some (r, ν') ∧ JR x m top μ' ν' := ⟨_, _, _, rfl, rfl, u3⟩
  rw [show (5 : Int32) = nI 5 from rfl, u1, u2, h1.1.wr]
  simp only [obs, ozb2]
  rw [h1.2.1.1]
  cases ct : gB ν1 1246 m with
  | false =>
    have e : f12_isImage m (nI n) ν1 = some false := by
      unfold f12_isImage
      rw [ct]; rfl
    rw [e]
    exact ref
  | true =>
    have hgx : ∃ g : Nat → Nat, ∀ j, j < 1600 → g j < 256 ∧ gA ν1 (m + 21) j = nI (g j) := by
      have t4 := h1.2.2.1.1.2
      refine ⟨fun j => (gA ν1 (m + 21) j).toNatClampNeg, fun j hj => ?_⟩
      obtain ⟨k, hk, ek⟩ := (t4 j hj).2
      show (gA ν1 (m + 21) j).toNatClampNeg < 256 ∧ gA ν1 (m + 21) j = nI (gA ν1 (m + 21) j).toNatClampNeg
      rw [ek, nI_clamp (by omega)]
      exact ⟨hk, rfl⟩
    obtain ⟨g, hgg⟩ := hgx
    have hg : ∀ j, j < 1600 → gA ν1 (m + 21) j = nI (g j) := fun j hj => (hgg j hj).2
    rcases isI (n := n) h1 ct t1 hg (fun j hj => (hgg j hj).1) with ⟨e1, e2⟩ | ⟨e1, e2, ok⟩
    · rw [e1, e2]
      exact ref
    · rw [e1, e2]
      simp only [Bool.not_true, Bool.false_eq_true, ↓reduceIte, obs]
      have h2 := h1.b1
      have hb : gF (sF ν1 1244 m 0) 1244 m = nI 0 := by rw [gF_sF, if_pos ⟨rfl, rfl⟩]; rfl
      have hg2 : ∀ j, j < 1600 → gA (sF ν1 1244 m 0) (m + 21) j = nI (g j) := hg
      rw [show wF ν1 1244 m 0 = some (sF ν1 1244 m 0) from rfl, obs]
      generalize sF ν1 1244 m 0 = ν2 at h2 hb hg2 ⊢
      obtain ⟨S1, c1, ⟨ν3, e3, q3⟩, iv, t0, s0⟩ := R_begin2 hb nw h2.1.m0.2.2.2 ok hg2 h2.1.inv.1.1
      have cs1 : CS N (x + 51) w μ1 μ1 S1 := h2.1.cs.ig c1
      obtain ⟨μ3, e4, q4⟩ := C_on2 cs1 h2.1.wr ok (fun j hj => (h2.2.2.1.1.2 j hj).1.trans (hg2 j hj))
      have hJ := h2.act q4 q3 iv (show _ = nI 0 from s0) (by omega) t0 rfl
      obtain ⟨hp, f, c, f20, c20, a3, _⟩ := hJ.2.2.2.2.2.2.1
      have hK := hJ.pop (c := 0) f20 (by omega) a3 (fun k hk => absurd hk (by omega))
      refine ⟨true, _, sF ν3 1245 m (nI 0), e4, ?_, _, _, _, _, hK⟩
      cases e5 : f12_clears m ν2 with
      | none => rw [e5] at e3; cases e3
      | some ν4 =>
        rw [e5, obs] at e3
        rw [obs]
        cases e6 : zloop (fun s => f12_on_L1 m s.1 s.2) 1000000 (0, ν4) with
        | none => rw [e6] at e3; cases e3
        | some p6 =>
          obtain ⟨p, ν5⟩ := p6
          rw [e6, ozb2] at e3
          rw [ozb2]
          cases e7 : zloop (fun s => f12_on_L2 m s.1 s.2) 1000000 (0, ν5) with
          | none => rw [e7] at e3; cases e3
          | some p7 =>
            obtain ⟨p, ν6⟩ := p7
            rw [e7, ozb2] at e3
            rw [ozb2]
            cases e8 : zloop (fun s => f12_on_L3 m s.1 s.2) 1000000 (0, ν6) with
            | none => rw [e8] at e3; cases e3
            | some p8 =>
              obtain ⟨p, ν7⟩ := p8
              rw [e8, ozb2] at e3
              rw [ozb2, e3, obs]
              rfl
end zM6
