/-! FEED and END, both -/
def shf : Nat → Int32
  | 0 => 24
  | 1 => 16
  | 2 => 8
  | 3 => 0
  | _ => -8
def byt (v : Int32) (i : Nat) : Int32 := (v >>> (shf i &&& 31)) &&& 255
theorem tb_and (a : Int32) : tb (a &&& 255) := by
  refine ⟨(a &&& 255).toBitVec.toNat, ?_, ?_⟩
  · rw [Int32.toBitVec_and, BitVec.toNat_and, show (255 : Int32).toBitVec.toNat = 2 ^ 8 - 1 from by decide, Nat.and_two_pow_sub_one_eq_mod]
    omega
  · apply Int32.toBitVec_inj.mp
    show _ = BitVec.ofNat 32 _
    rw [BitVec.ofNat_toNat, BitVec.setWidth_eq]
section zL8
variable {N : zN} {x m w s B st top n k i f c p j b l t e P h : Nat} {μ0 μ μ' μ1 ν0 ν ν' ν1 M : zM} {S S' S1 X : zS} {v : Int32}
/-- the array grown by some bytes -/
def GA (a n i : Nat) (v : Int32) (μ μ' : zM) : Prop := (∀ k, gB μ' k = gB μ k) ∧ (∀ k, gR μ' k = gR μ k) ∧ (∀ b j, gA μ' b j = if b = a ∧ n ≤ j ∧ j < n + i then byt v (j - n) else gA μ b j) ∧ (∀ b, gZ μ' b = gZ μ b) ∧ ∀ b, gX μ' b = gX μ b
theorem GA.one (h : GA k n i v μ μ') : GA k n (i + 1) v μ (sA μ' k (n + i) (byt v i)) := by
  obtain ⟨h1, h2, h3, h4, h5⟩ := h
  refine ⟨h1, h2, fun b j => ?_, h4, h5⟩
  rw [gA_sA, h3]
  by_cases c : b = k ∧ j = n + i
  · rw [if_pos c, if_pos ⟨c.1, by omega, by omega⟩, c.2, Nat.add_sub_cancel_left]
  · rw [if_neg c]
    by_cases c2 : b = k ∧ n ≤ j ∧ j < n + i
    · rw [if_pos c2, if_pos (by omega)]
    · rw [if_neg c2, if_neg (by omega)]
theorem C_put (e1 : gF μ 1113 x = nI n) (hn : n + 4 ≤ 1600) : ∃ μ', f11_putNumber x v μ = some μ' ∧ gF μ' 1113 x = nI (n + 4) ∧ (∀ k a, ¬ (k = 1113 ∧ a = x) → gF μ' k a = gF μ k a) ∧ GA (x + 1) n 4 v μ μ' := by
  obtain ⟨r, e, h⟩ := zloop_up (body := fun s => f11_putNumber_L1 x v s.1 s.2) (fun i (μ' : zM) => (shf i, μ')) (fun i μ' => gF μ' 1113 x = nI (n + i) ∧ (∀ k a, ¬ (k = 1113 ∧ a = x) → gF μ' k a = gF μ k a) ∧ GA (x + 1) n i v μ μ') 4 (fun r => gF r.2 1113 x = nI (n + 4) ∧ (∀ k a, ¬ (k = 1113 ∧ a = x) → gF r.2 k a = gF μ k a) ∧ GA (x + 1) n 4 v μ r.2) (by
    rintro i μ1 hi ⟨p1, p2, p3⟩
    refine ⟨sF (sA μ1 (x + 1) (n + i) (byt v i)) 1113 x (nI (n + (i + 1))), ?_, by rw [gF_sF, if_pos ⟨rfl, rfl⟩], fun k a hk => by rw [gF_sF, if_neg hk]; exact p2 k a hk, p3.one⟩
    show f11_putNumber_L1 x v (shf i) μ1 = _
    unfold f11_putNumber_L1
    rw [show clt (shf i) 0 = false from by
      have : i = 0 ∨ i = 1 ∨ i = 2 ∨ i = 3 := by omega
      rcases this with rfl | rfl | rfl | rfl <;> decide, if_neg (by decide), p1, wA_nI (by omega) (by omega), obs]
    simp only [wF, obs]
    rw [gF_sA, p1, nI_1, show shf i + -8 = shf (i + 1) from by
      have : i = 0 ∨ i = 1 ∨ i = 2 ∨ i = 3 := by omega
      rcases this with rfl | rfl | rfl | rfl <;> decide]
    rfl) (by
    rintro μ1 ⟨p1, p2, p3⟩
    exact ⟨(shf 4, μ1), rfl, p1, p2, p3⟩) 4 0 1000000 μ (by omega) (by omega) (by omega) ⟨e1, fun _ _ _ => rfl, fun _ => rfl, fun _ => rfl, fun b j => by rw [if_neg (by omega)], fun _ => rfl, fun _ => rfl⟩
  refine ⟨r.2, ?_, h⟩
  unfold f11_putNumber
  rw [show ((24 : Int32), μ) = (shf 0, μ) from rfl, e]
  obtain ⟨r1, r2⟩ := r
  rw [ozb2]
theorem R_lay (e1 : gF ν 1232 m = nI n) (hn : n + 4 ≤ 1600) : ∃ ν', f12_lays m v ν = some ν' ∧ gF ν' 1232 m = nI (n + 4) ∧ (∀ k a, ¬ (k = 1232 ∧ a = m) → gF ν' k a = gF ν k a) ∧ GA (m + 21) n 4 v ν ν' := by
  obtain ⟨r, e, h⟩ := zloop_up (body := fun s => f12_lays_L1 m v s.1 s.2) (fun i (μ' : zM) => (nI i, μ')) (fun i μ' => (∀ k a, gF μ' k a = gF ν k a) ∧ GA (m + 21) n i v ν μ') 4 (fun r => (∀ k a, gF r.2 k a = gF ν k a) ∧ GA (m + 21) n 4 v ν r.2) (by
    rintro i μ1 hi ⟨p1, p2⟩
    refine ⟨sA μ1 (m + 21) (n + i) (byt v i), ?_, p1, p2.one⟩
    show f12_lays_L1 m v (nI i) μ1 = _
    unfold f12_lays_L1
    rw [show clt (nI i) 4 = true from by rw [show (4 : Int32) = nI 4 from rfl, clt_nI (by omega) (by omega), decide_eq_true hi], if_pos rfl, p1, e1, nI_add, wA_nI (by omega) (by omega), obs, obs, nI_1, show (24 : Int32) - 8 * nI i = shf i from by
      have : i = 0 ∨ i = 1 ∨ i = 2 ∨ i = 3 := by omega
      rcases this with rfl | rfl | rfl | rfl <;> decide]
    rfl) (by
    rintro μ1 ⟨p1, p2⟩
    exact ⟨(nI 4, μ1), rfl, p1, p2⟩) 4 0 1000000 ν (by omega) (by omega) (by omega) ⟨fun _ _ => rfl, fun _ => rfl, fun _ => rfl, fun b j => by rw [if_neg (by omega)], fun _ => rfl, fun _ => rfl⟩
  obtain ⟨r1, r2⟩ := r
  refine ⟨sF r2 1232 m (nI (n + 4)), ?_, by rw [gF_sF, if_pos ⟨rfl, rfl⟩], fun k a hk => by rw [gF_sF, if_neg hk]; exact h.1 k a, h.2⟩
  unfold f12_lays
  rw [show ((0 : Int32), ν) = (nI 0, ν) from rfl, e, ozb2]
  simp only [wF, obs]
  rw [show gF r2 1232 m = nI n from (h.1 _ _).trans e1, show (4 : Int32) = nI 4 from rfl, nI_add]
theorem lay2 (h : JJ N S st w x m top μ ν) (e1 : gF μ 1113 x = nI n) (e2 : gF ν 1232 m = nI n) (hn : n + 4 ≤ 1600) (v : Int32) : ∃ μ' ν', f11_putNumber x v μ = some μ' ∧ f12_lays m v ν = some ν' ∧ JJ N S st w x m top μ' ν' ∧ gF μ' 1113 x = nI (n + 4) ∧ gF ν' 1232 m = nI (n + 4) := by
  obtain ⟨μ', a1, a2, a3, b1, b2, b3, b4, b5⟩ := C_put (v := v) e1 hn
  obtain ⟨ν', c1, c2, c3, d1, d2, d3, d4, d5⟩ := R_lay (v := v) e2 hn
  refine ⟨μ', ν', a1, c1, h.ee ⟨fun a h1 h2 h3 h4 h5 h6 => ⟨fun k => a3 k a (by omega), fun k => by rw [b1], fun k => by rw [b2], fun j => by rw [b3, if_neg (by omega)], fun j => by rw [b4], fun j => by rw [b5]⟩, fun k h1 h2 h3 => a3 k x (by omega), fun k => by rw [b2]⟩ ⟨fun k hk => c3 k m (by omega), fun k => by rw [d1], fun d j hd => by rw [d3, if_neg (by omega)]⟩ ?_, a2, c2⟩
  obtain ⟨⟨_, t4⟩, r1, ⟨f1, f2⟩, ⟨s1, s2⟩, ⟨q, i1, i2, i3, i4⟩⟩ := h.2.2.1
  refine ⟨⟨⟨n + 4, hn, a2, c2⟩, fun j hj => ?_⟩, fun k hk => by rw [b3, d3, if_neg (by omega), if_neg (by omega)]; exact r1 k hk, ⟨by rw [a3 _ _ (by omega), c3 _ _ (by omega)]; exact f1, by rw [a3 _ _ (by omega), c3 _ _ (by omega)]; exact f2⟩, ⟨by rw [a3 _ _ (by omega), c3 _ _ (by omega)]; exact s1, by rw [a3 _ _ (by omega)]; exact s2⟩, ⟨q, i1, by rw [a3 _ _ (by omega)]; exact i2, by rw [c3 _ _ (by omega)]; exact i3, fun j hj => by rw [b3, d3, if_neg (by omega), if_neg (by omega)]; exact i4 j hj⟩⟩
  rw [b3, d3]
  by_cases c : n ≤ j ∧ j < n + 4
  · rw [if_pos ⟨rfl, c⟩, if_pos ⟨rfl, c⟩]; exact ⟨rfl, tb_and _⟩
  · rw [if_neg (by omega), if_neg (by omega)]; exact t4 j hj
theorem q_feed (h : JR x m top μ ν) (a1 a2 a3 a4 a5 : Int32) : ∃ r μ' ν', f11_feed x a1 a2 a3 a4 a5 μ = some (r, μ') ∧ f12_feed m a1 a2 a3 a4 a5 ν = some (r, ν') ∧ JR x m top μ' ν' := by
  obtain ⟨N, S, st, w, h⟩ := h
  obtain ⟨n, t1, t2, t3⟩ := h.2.2.1.1.1
  obtain ⟨μr, νr, u1, u2, u3⟩ := rf_int (k := 0) h (by omega)
  unfold f11_feed f12_feed
  rw [t2, t3, show (20 : Int32) = nI 20 from rfl, nI_add, show (1600 : Int32) = nI 1600 from rfl, clt_nI (by omega) (by omega), show f11_refuse x 0 μ = _ from u1, show f12_refuses m 0 ν = _ from u2, ozb2, ozb2]
  by_cases c : 1600 < n + 20
  · rw [decide_eq_true c]
    exact ⟨_, _, _, rfl, rfl, u3⟩
  · rw [decide_eq_false c, if_neg (by decide), if_neg (by decide)]
    obtain ⟨μ1, ν1, p1, p2, h1, p3, p4⟩ := lay2 h t2 t3 (by omega) a1
    obtain ⟨μ2, ν2, q1, q2, h2, q3, q4⟩ := lay2 h1 p3 p4 (by omega) a2
    obtain ⟨μ3, ν3, r1, r2, h3, r3, r4⟩ := lay2 h2 q3 q4 (by omega) a3
    obtain ⟨μ4, ν4, s1, s2, h4, s3, s4⟩ := lay2 h3 r3 r4 (by omega) a4
    obtain ⟨μ5, ν5, t1, t2, h5, t3, t4⟩ := lay2 h4 s3 s4 (by omega) a5
    rw [p1, obs, q1, obs, r1, obs, s1, obs, t1, obs, p2, obs, q2, obs, r2, obs, s2, obs, t2, obs, t3, t4]
    exact ⟨_, _, _, rfl, rfl, _, _, _, _, h5⟩
theorem JJ.tp (h : JJ N S st w x m top μ ν) (hn : n ≤ 1600) : JJ N S st w x m top (sF μ 1113 x (nI n)) (sF ν 1232 m (nI n)) := by
  refine h.ee ⟨fun a h1 h2 h3 h4 h5 h6 => ⟨fun k => by rw [gF_sF, if_neg (by omega)], fun _ => rfl, fun _ => rfl, fun _ => rfl, fun _ => rfl, fun _ => rfl⟩, fun k h1 h2 h3 => by rw [gF_sF, if_neg (by omega)], fun _ => rfl⟩ ⟨fun k hk => by rw [gF_sF, if_neg (by omega)], fun _ => rfl, fun _ _ _ => rfl⟩ ?_
  obtain ⟨⟨_, t4⟩, r1, ⟨f1, f2⟩, ⟨s1, s2⟩, ⟨q, i1, i2, i3, i4⟩⟩ := h.2.2.1
  exact ⟨⟨⟨n, hn, by rw [gF_sF, if_pos ⟨rfl, rfl⟩], by rw [gF_sF, if_pos ⟨rfl, rfl⟩]⟩, t4⟩, r1, ⟨by rw [gF_sF, if_neg (by omega), gF_sF, if_neg (by omega)]; exact f1, by rw [gF_sF, if_neg (by omega), gF_sF, if_neg (by omega)]; exact f2⟩, ⟨by rw [gF_sF, if_neg (by omega), gF_sF, if_neg (by omega)]; exact s1, by rw [gF_sF, if_neg (by omega)]; exact s2⟩, ⟨q, i1, by rw [gF_sF, if_neg (by omega)]; exact i2, by rw [gF_sF, if_neg (by omega)]; exact i3, i4⟩⟩
theorem q_end (h : JR x m top μ ν) (a : Int32) : ∃ r μ' ν', f11_end x a μ = some (r, μ') ∧ f12_end m a ν = some (r, ν') ∧ JR x m top μ' ν' := by
  obtain ⟨N, S, st, w, h⟩ := h
  obtain ⟨n, t1, t2, t3⟩ := h.2.2.1.1.1
  obtain ⟨μr, νr, u1, u2, u3⟩ := rf_bool (k := 0) h (by omega)
  have u2' : ((rA ν (m + 22) 6 0).bind fun t1 => (wA ν (m + 22) 6 0 (t1 + 1)).bind fun μ2 => some (false, μ2)) = some (false, νr) := u2
  unfold f11_end f12_end
  rw [t2, t3, show f11_refuses x 0 μ = _ from u1, u2', ozb2]
  cases c1 : clt a 0 with
  | true => exact ⟨_, _, _, rfl, rfl, u3⟩
  | false =>
    cases c2 : clt (nI n) a with
    | true => exact ⟨_, _, _, rfl, rfl, u3⟩
    | false =>
      have c3 : clt a (nI (n + 1)) = true := by rw [← clt_le (by omega), c2]; rfl
      obtain ⟨k, hk, rfl⟩ := rI_of c1 c3 (by omega)
      exact ⟨true, _, _, rfl, rfl, _, _, _, _, h.tp (by omega)⟩
end zL8
