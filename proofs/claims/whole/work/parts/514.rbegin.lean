/-! A NET BEGINS, in the reference: an empty row -/
def Zc : zS := fun f _ => if f = 42 then -1 else if f = 46 then 1 else 0
section zF4
variable {N : zN} {m B : Nat} {ν0 ν ν' : zM} {S S' : zS} {e b l h k n f i : Nat} {v : Int32}
theorem MS.rng (q : MS N m B ν0 ν S) (so : SO N S') (hP : ∀ e k, e < 2 * nL N → k < 17 → (11 ≤ k → S' 10 e = 1) → S' k e = S k e) (hB : ∀ b k, b < nB N → k < 11 → (3 ≤ k → k ≤ 6 → S' 32 b = 1) → S' (20 + k) b = S (20 + k) b) (h32 : ∀ b, b < nB N → S' 32 b = 1 → S 32 b = 1) (hL : ∀ l, l < nL N → S' 40 l = S 40 l) (hH : ∀ h, h < nH N → S' 41 h = S 41 h) (hA : ∀ b h, b < nB N → h < nH N → S' 42 (b * 8 + h) = S 42 (b * 8 + h) ∧ S' 43 (b * 8 + h) = S 43 (b * 8 + h)) (hA2 : ∀ b h, b < nB N → nH N ≤ h → h < 8 → S' 42 (b * 8 + h) = -1) (h44 : S' 44 0 = S 44 0 ∧ S' 44 1 = S 44 1) (h46 : S' 46 0 ≠ 1 → S 46 0 ≠ 1 ∧ S' 44 3 = S 44 3 ∧ ∀ k, S' 45 k = S 45 k) (hw : (∀ k, k < 6 → S' 48 k = S 48 k) ∧ ∀ b, b < 8 → S' 38 b = S 38 b) (hl : lS S' = lS S) (h61 : ∀ q, q < 6 * nL N → S' 61 q = S 61 q) (hM : ∀ q c, q ∈ lS S → c < 10 → S' (50 + c) q = S (50 + c) q) : MS N m B ν0 ν S' := by
  have nw := q.nw
  obtain ⟨⟨m1, m2, m3, m4, m5, m6, m7, m8, m9, m10, mw, m11⟩, hso, hmt, hfr⟩ := q
  have e10 : ∀ e, e < 2 * nL N → S' 10 e = S 10 e := fun e he => hP e 10 he (by omega) (fun x => by omega)
  refine ⟨⟨?_, ?_, ?_, ?_, ?_, ?_, ?_, hA2, ?_, ?_, ?_, ?_⟩, so, hmt, hfr⟩
  · intro e k he hk hh
    rw [hP e k he hk hh]
    exact m1 e k he hk (fun x => by rw [← e10 e he]; exact hh x)
  · intro e k he h1 h2
    rw [hP e k he (by omega) (fun x => by omega)]; exact m2 e k he h1 h2
  · intro b k hb hk hc
    rw [hB b k hb hk hc]
    exact m3 b k hb hk (fun x y => h32 b hb (hc x y))
  · intro b hb
    have e0 := hB b 0 hb (by omega) (fun x => by omega)
    have e2 := hB b 2 hb (by omega) (fun x => by omega)
    rw [show S' 20 b = S 20 b from e0, show S' 22 b = S 22 b from e2]; exact m4 b hb
  · intro l hl; rw [hL l hl]; exact m5 l hl
  · intro h hh; rw [hH h hh]; exact m6 h hh
  · intro b h hb hh; rw [(hA b h hb hh).1, (hA b h hb hh).2]; exact m7 b h hb hh
  · rw [h44.1, h44.2]; exact m9
  · obtain ⟨t, t1, t2, t3⟩ := m10
    refine ⟨t, t1, t2, fun x => ?_⟩
    obtain ⟨y1, y2, y3⟩ := h46 x
    obtain ⟨t4, t5⟩ := t3 y1
    exact ⟨by rw [y2]; exact t4, fun k hk => by rw [y3]; exact t5 k hk⟩
  · exact ⟨fun k hk => by rw [hw.1 k hk]; exact mw.1 k hk, fun b hb => by rw [hw.2 b hb]; exact mw.2 b hb⟩
  · rw [hl]
    obtain ⟨n1, n2, n3, n4⟩ := m11
    refine ⟨n1, fun q => ?_, n3, fun k q hk => ?_⟩
    · rw [n2 q]
      constructor
      · intro x; exact ⟨x.1, by rw [h61 q x.1]; exact x.2⟩
      · intro x; exact ⟨x.1, by rw [← h61 q x.1]; exact x.2⟩
    · have hq : q ∈ lS S := List.mem_of_getElem? hk
      obtain ⟨o1, o2, o3, o4⟩ := n4 k q hk
      exact ⟨by rw [show S' 50 q = S 50 q from hM q 0 hq (by omega)]; exact o1, o2, o3, fun c h1 h2 => by rw [hM q c hq h2]; exact o4 c h1 h2⟩
theorem R_clear (hb : gF ν 1244 m = nI 0) : ∃ ν', f12_clears m ν = some ν' ∧ (∀ j, j < 2874 → gA ν' (m + 24) j = if 986 ≤ j ∧ j < 1114 ∧ j % 2 = 0 then -1 else 0) ∧ FrM m 0 ν ν' ∧ (∀ j, gA ν' (m + 26) j = gA ν (m + 26) j) ∧ ∀ j, gA ν' (m + 27) j = gA ν (m + 27) j := by
  have put : ∀ ν1 k v, (∀ k a, gF ν1 k a = gF ν k a) → k < 2874 → f12_puts m (nI k) v ν1 = some (sA ν1 (m + 24) k v) := fun ν1 k v h1 hk => by
    unfold f12_puts
    rw [h1, hb, nI_add, wA_nI (by omega) (by omega), Nat.zero_add]; rfl
  obtain ⟨ν1, e1, h1⟩ := lp (Q := fun ν' n => (∀ j, j < n → gA ν' (m + 24) j = 0) ∧ FrM m 0 ν ν' ∧ (∀ j, gA ν' (m + 26) j = gA ν (m + 26) j) ∧ ∀ j, gA ν' (m + 27) j = gA ν (m + 27) j) (body := fun s => f12_clears_L1 m s.1 s.2) nI (fun i (_ : Nat) => i + 1) 2874 (S := 0) (μ := ν) (x0 := 0) (by
    intro i ν1 hi q1
    rw [pf_n] at q1
    obtain ⟨z1, z2, z3, z4⟩ := q1
    show ∃ ν', f12_clears_L1 m (nI i) ν1 = some (.inl (nI (i + 1), ν')) ∧ (∀ j, j < i + 1 → gA ν' (m + 24) j = 0) ∧ FrM m 0 ν ν' ∧ (∀ j, gA ν' (m + 26) j = gA ν (m + 26) j) ∧ ∀ j, gA ν' (m + 27) j = gA ν (m + 27) j
    have c : clt (nI i) 2874 = true := by
      show clt (nI i) (nI 2874) = true
      rw [clt_nI (by omega) (by omega)]; exact decide_eq_true hi
    unfold f12_clears_L1
    rw [c, if_pos rfl, put ν1 i 0 z2.1 hi, obs, obs, nI_1]
    refine ⟨_, rfl, fun j hj => ?_, ?_, fun j => ?_, fun j => ?_⟩
    · rw [gA_sA]
      by_cases c : j = i
      · rw [if_pos ⟨rfl, c⟩]
      · rw [if_neg (fun x => c x.2)]; exact z1 j (by omega)
    · have := z2.wA (B := 0) (k := i) (v := 0) hi
      rw [Nat.zero_add] at this; exact this
    · rw [gA_sA, if_neg (by omega)]; exact z3 j
    · rw [gA_sA, if_neg (by omega)]; exact z4 j) (by
    intro ν1 q1
    show f12_clears_L1 m (nI 2874) ν1 = _
    have c : clt (nI 2874) 2874 = false := by decide
    unfold f12_clears_L1
    rw [c, if_neg (by decide)]) (by omega) ⟨fun j hj => absurd hj (by omega), FrM.rf, fun _ => rfl, fun _ => rfl⟩
  rw [pf_n] at h1
  obtain ⟨ν2, e2, h2⟩ := lp (Q := fun ν' n => (∀ j, j < 2874 → gA ν' (m + 24) j = if 986 ≤ j ∧ j < 986 + 2 * n ∧ j % 2 = 0 then -1 else 0) ∧ FrM m 0 ν ν' ∧ (∀ j, gA ν' (m + 26) j = gA ν (m + 26) j) ∧ ∀ j, gA ν' (m + 27) j = gA ν (m + 27) j) (body := fun s => f12_clears_L2 m s.1 s.2) nI (fun i (_ : Nat) => i + 1) 64 (S := 0) (μ := ν1) (x0 := 0) (by
    intro i ν1 hi q1
    rw [pf_n] at q1
    obtain ⟨z1, z2, z3, z4⟩ := q1
    show ∃ ν', f12_clears_L2 m (nI i) ν1 = some (.inl (nI (i + 1), ν')) ∧ (∀ j, j < 2874 → gA ν' (m + 24) j = if 986 ≤ j ∧ j < 986 + 2 * (i + 1) ∧ j % 2 = 0 then -1 else 0) ∧ FrM m 0 ν ν' ∧ (∀ j, gA ν' (m + 26) j = gA ν (m + 26) j) ∧ ∀ j, gA ν' (m + 27) j = gA ν (m + 27) j
    unfold f12_clears_L2
    rw [cltR64 (by omega), decide_eq_true hi, if_pos rfl, mulQ2, addQ986, put ν1 _ (-1) z2.1 (by omega), obs, obs, nI_1]
    refine ⟨_, rfl, fun j hj => ?_, ?_, fun j => ?_, fun j => ?_⟩
    · rw [gA_sA]
      by_cases c : j = 986 + 2 * i
      · rw [if_pos ⟨rfl, c⟩, if_pos (by omega)]
      · rw [if_neg (fun x => c x.2), z1 j hj]
        by_cases c2 : 986 ≤ j ∧ j < 986 + 2 * i ∧ j % 2 = 0
        · rw [if_pos c2, if_pos (by omega)]
        · rw [if_neg c2, if_neg (by omega)]
    · have := z2.wA (B := 0) (k := 986 + 2 * i) (v := -1) (by omega)
      rw [Nat.zero_add] at this; exact this
    · rw [gA_sA, if_neg (by omega)]; exact z3 j
    · rw [gA_sA, if_neg (by omega)]; exact z4 j) (by
    intro ν1 q1
    rfl) (by omega) ⟨fun j hj => by rw [h1.1 j hj, if_neg (by omega)], h1.2⟩
  rw [pf_n] at h2
  refine ⟨ν2, ?_, h2⟩
  unfold f12_clears
  rw [e1, ozb2, e2, ozb2]
def Zw (ν : zM) (m : Nat) : zS := fun f i => if f = 38 then gA ν (m + 26) i else if f = 48 then gA ν (m + 27) i else Zc f i
theorem Zw_f (h1 : f ≠ 38) (h2 : f ≠ 48) : Zw ν m f i = Zc f i := by unfold Zw; rw [if_neg h1, if_neg h2]
theorem Zc_0 (h1 : f ≠ 42) (h2 : f ≠ 46) : Zc f i = 0 := by unfold Zc; rw [if_neg h1, if_neg h2]
theorem R_zero (hb : gF ν 1244 m = nI 0) (nw : NW N) (ri : RI N m ν) : ∃ ν', f12_clears m ν = some ν' ∧ MS N m 0 ν ν' (Zw ν m) := by
  obtain ⟨ν1, e1, h1, h2, h3, h4⟩ := R_clear hb
  have b8 := nw.b8; have l14 := nw.l14; have h8 := nw.h8
  refine ⟨ν1, e1, ⟨?_, ?_, ?_, ?_, ?_, ?_, ?_, ?_, ?_, ?_, ?_, ?_⟩, ⟨fun b h hb hh => Or.inl rfl, fun h hh => ⟨0, by have := nw.hm hh; omega, rfl⟩⟩, ⟨nw, ri, hb, Or.inl rfl⟩, h2⟩
  · intro e k he hk hh
    have := nw.pl_48 he
    rw [rw_lo (by omega), Nat.zero_add, h1 _ (by omega), if_neg (by omega), Zw_f (by omega) (by omega), Zc_0 (by omega) (by omega)]
  · intro e k he h1 h2
    rw [Zw_f (by omega) (by omega), Zc_0 (by omega) (by omega)]; exact Or.inl rfl
  · intro b k hb hk hc
    rw [rw_lo (by omega), Nat.zero_add, h1 _ (by omega), if_neg (by omega), Zw_f (by omega) (by omega), Zc_0 (by omega) (by omega)]
  · intro b hb; exact ⟨Or.inl rfl, Or.inl rfl⟩
  · intro l hl
    rw [rw_lo (by omega), Nat.zero_add, h1 _ (by omega), if_neg (by omega)]; exact ⟨rfl, Or.inl rfl⟩
  · intro h hh
    rw [rw_lo (by omega), Nat.zero_add, h1 _ (by omega), if_neg (by omega)]; rfl
  · intro b h hb hh
    rw [rw_lo (by omega), rw_lo (by omega), Nat.zero_add, Nat.zero_add, h1 _ (by omega), h1 _ (by omega), if_pos (by omega), if_neg (by omega)]; exact ⟨rfl, rfl⟩
  · intro b h hb h1 h2; rfl
  · rw [rw_lo (by omega), rw_lo (by omega), h1 _ (by omega), h1 _ (by omega), if_neg (by omega), if_neg (by omega)]; exact ⟨rfl, rfl⟩
  · refine ⟨0, by omega, ?_, fun x => absurd rfl x⟩
    rw [rw_lo (by omega), h1 _ (by omega), if_neg (by omega)]; rfl
  · refine ⟨fun k hk => ?_, fun b hb => ?_⟩
    · unfold rw_; rw [if_neg (by omega), if_pos (by omega), Nat.add_sub_cancel_left, h4]; rfl
    · unfold rw_; rw [if_neg (by omega), if_neg (by omega), Nat.add_sub_cancel_left, h3]; rfl
  · have e : lS (Zw ν m) = [] := rfl
    rw [e]
    refine ⟨List.nodup_nil, fun q => ⟨fun x => absurd x List.not_mem_nil, fun x => ?_⟩, ?_, fun k q hk => (by cases hk)⟩
    · exact absurd x.2 (show ¬ (0 : Int32) = 1 by decide)
    · rw [rw_lo (by omega), h1 _ (by omega), if_neg (by omega)]; rfl
end zF4
