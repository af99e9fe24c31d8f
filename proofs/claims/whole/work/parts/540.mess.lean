/-! MESSAGES BY THEIR ORDER, the class -/
theorem nI_dec {n : Nat} (h : 0 < n) : nI n + (-1) = nI (n - 1) := by
  obtain ⟨k, rfl⟩ : ∃ k, n = k + 1 := ⟨n - 1, by omega⟩
  rw [← nI_1, Int32.add_assoc, show (1 : Int32) + (-1) = 0 by decide, Int32.add_zero]; rfl
theorem cnt_skip {p : Nat → Bool} {a : Nat} : ∀ d, (∀ t, a ≤ t → t < a + d → p t = false) → cnt p (a + d) = cnt p a
  | 0, _ => rfl
  | d + 1, h => by
    have ih := cnt_skip d (fun t h1 h2 => h t h1 (by omega))
    rw [show a + (d + 1) = a + d + 1 by omega, cnt_s, h (a + d) (by omega) (by omega), if_neg (by decide), ih]
/-- the slot at a place of the order of arrival -/
def mq (N : zN) (st t : Nat) : Nat := slot (eo N (t % 48 / 6) (t % 6)) (st + t / 48)
def mp (N : zN) (S : zS) (st t : Nat) : Bool := decide (t % 48 / 6 < nB N ∧ t % 6 < nP N (t % 48 / 6)) && ceq (S 60 (mq N st t)) 1
section zJ0
variable {N : zN} {s w st a b i k n : Nat} {μ0 μ : zM} {S : zS}
theorem pos_d (hb : b < 8) (hp : a < 6) : (48 * i + 6 * b + a) % 48 / 6 = b := by omega
theorem pos_m (hp : a < 6) : (48 * i + 6 * b + a) % 6 = a := by omega
theorem pos_q (hb : b < 8) (hp : a < 6) : (48 * i + 6 * b + a) / 48 = i := by omega
def MF (N : zN) (S : zS) (st k : Nat) (v : Int32) : Prop := ∃ t, t < 144 ∧ mp N S st t = true ∧ cnt (mp N S st) t = k ∧ v = nI (mq N st t)
theorem C_ms3 (h : CS N s w μ0 μ S) (hs : st + 3 < 2 ^ 31) (hk : k < 2 ^ 31) (hi : i < 3) (hb : b < nB N) (hc : cnt (mp N S st) (48 * i + 6 * b) ≤ k) : (∃ v, zloop (fun q => f8_mailSlot_L3 s μ (nI (st + i)) (nI b) q.1 q.2) 1000000 (nI (k - cnt (mp N S st) (48 * i + 6 * b)), 0) = some (.inl v) ∧ MF N S st k v) ∨ ∃ r, zloop (fun q => f8_mailSlot_L3 s μ (nI (st + i)) (nI b) q.1 q.2) 1000000 (nI (k - cnt (mp N S st) (48 * i + 6 * b)), 0) = some (.inr r) ∧ r = (nI (k - cnt (mp N S st) (48 * i + 6 * b + nP N b)), nI (nP N b)) ∧ cnt (mp N S st) (48 * i + 6 * b + nP N b) ≤ k := by
  have nw := h.nw
  have b8 := nw.b_8 hb
  have p6 := nw.p6 hb
  refine lpX (body := fun q => f8_mailSlot_L3 s μ (nI (st + i)) (nI b) q.1 q.2) (fun p (_ : Unit) => (nI (k - cnt (mp N S st) (48 * i + 6 * b + p)), nI p)) (fun p _ => cnt (mp N S st) (48 * i + 6 * b + p) ≤ k) (nP N b) (MF N S st k) (fun r => r = (nI (k - cnt (mp N S st) (48 * i + 6 * b + nP N b)), nI (nP N b)) ∧ cnt (mp N S st) (48 * i + 6 * b + nP N b) ≤ k) ?_ ?_ (nP N b) 0 1000000 () (by omega) (by omega) (by omega) hc
  · intro p x hp hle
    have ql := nw.eo_l hb hp
    have q28 := nw.eo_28 hb hp
    have em : mq N st (48 * i + 6 * b + p) = slot (eo N b p) (st + i) := by unfold mq; rw [pos_d b8 (by omega), pos_m (by omega), pos_q b8 (by omega)]
    have ep : mp N S st (48 * i + 6 * b + p) = ceq (S 60 (slot (eo N b p) (st + i))) 1 := by
      unfold mp
      rw [em, pos_d b8 (by omega), pos_m (by omega), decide_eq_true ⟨hb, hp⟩, Bool.true_and]
    have start : f8_mailSlot_L3 s μ (nI (st + i)) (nI b) (nI (k - cnt (mp N S st) (48 * i + 6 * b + p))) (nI p) = if ceq (S 60 (slot (eo N b p) (st + i))) 1 = true then (if ceq (nI (k - cnt (mp N S st) (48 * i + 6 * b + p))) 0 = true then some (.inr (.inl (nI (slot (eo N b p) (st + i))))) else some (.inl (nI (k - cnt (mp N S st) (48 * i + 6 * b + p)) + (-1), nI (p + 1)))) else some (.inl (nI (k - cnt (mp N S st) (48 * i + 6 * b + p)), nI (p + 1))) := by
      unfold f8_mailSlot_L3
      rw [h.c_wir, obs, h.w_p hb, obs, clt_nI (by omega) (by omega), decide_eq_true hp, if_pos rfl, obs, h.w_eo hb hp, obs, C_slot q28 (by omega), obs, rI_nI (slot_84 q28 _) (by omega), obs, h.r_there (slot_84 q28 _)]
      simp only [obs, nI_1]
    rw [← ep] at start
    by_cases c : mp N S st (48 * i + 6 * b + p) = true
    · rw [if_pos c, ceqR0 (by omega)] at start
      by_cases c2 : k - cnt (mp N S st) (48 * i + 6 * b + p) = 0
      · rw [decide_eq_true c2, if_pos rfl] at start
        exact Or.inr ⟨_, start, 48 * i + 6 * b + p, by omega, c, by omega, by rw [em]⟩
      · rw [decide_eq_false c2, if_neg (by decide), nI_dec (by omega)] at start
        have e1 : cnt (mp N S st) (48 * i + 6 * b + (p + 1)) = cnt (mp N S st) (48 * i + 6 * b + p) + 1 := by
          rw [show 48 * i + 6 * b + (p + 1) = 48 * i + 6 * b + p + 1 by omega, cnt_s, if_pos c]
        refine Or.inl ⟨(), ?_, ?_⟩
        · rw [e1, ← Nat.sub_sub]; exact start
        · rw [e1]; omega
    · rw [if_neg c] at start
      have e1 : cnt (mp N S st) (48 * i + 6 * b + (p + 1)) = cnt (mp N S st) (48 * i + 6 * b + p) := by
        rw [show 48 * i + 6 * b + (p + 1) = 48 * i + 6 * b + p + 1 by omega, cnt_s, if_neg c]
      refine Or.inl ⟨(), ?_, ?_⟩
      · rw [e1]; exact start
      · rw [e1]; exact hle
  · intro x hle
    refine ⟨_, ?_, rfl, hle⟩
    show f8_mailSlot_L3 s μ (nI (st + i)) (nI b) _ (nI (nP N b)) = _
    unfold f8_mailSlot_L3
    rw [h.c_wir, obs, h.w_p hb, obs, clt_nI (by omega) (by omega), decide_eq_false (by omega), if_neg (by decide)]
theorem mp_gap (nw : NW N) (hb : b < nB N) : cnt (mp N S st) (48 * i + 6 * b + nP N b) = cnt (mp N S st) (48 * i + 6 * (b + 1)) := by
  have b8 := nw.b_8 hb
  have p6 := nw.p6 hb
  rw [show 48 * i + 6 * (b + 1) = 48 * i + 6 * b + nP N b + (6 - nP N b) by omega]
  refine (cnt_skip _ (fun t h1 h2 => ?_)).symm
  obtain ⟨d, rfl⟩ : ∃ d, t = 48 * i + 6 * b + d := ⟨t - (48 * i + 6 * b), by omega⟩
  unfold mp
  rw [pos_d b8 (by omega), pos_m (by omega), decide_eq_false (by omega), Bool.false_and]
theorem mp_gap2 (nw : NW N) : cnt (mp N S st) (48 * i + 6 * nB N) = cnt (mp N S st) (48 * (i + 1)) := by
  have b8 := nw.b8
  rw [show 48 * (i + 1) = 48 * i + 6 * nB N + (48 - 6 * nB N) by omega]
  refine (cnt_skip _ (fun t h1 h2 => ?_)).symm
  unfold mp
  rw [decide_eq_false (by omega), Bool.false_and]
theorem C_ms2 (h : CS N s w μ0 μ S) (hs : st + 3 < 2 ^ 31) (hk : k < 2 ^ 31) (hi : i < 3) (hc : cnt (mp N S st) (48 * i) ≤ k) : (∃ v, zloop (fun q => f8_mailSlot_L2 s μ (nI (st + i)) q.1 q.2) 1000000 (nI (k - cnt (mp N S st) (48 * i)), 0) = some (.inl v) ∧ MF N S st k v) ∨ ∃ r, zloop (fun q => f8_mailSlot_L2 s μ (nI (st + i)) q.1 q.2) 1000000 (nI (k - cnt (mp N S st) (48 * i)), 0) = some (.inr r) ∧ r = (nI (k - cnt (mp N S st) (48 * (i + 1))), nI (nB N)) ∧ cnt (mp N S st) (48 * (i + 1)) ≤ k := by
  have nw := h.nw
  have b8 := nw.b8
  refine lpX (body := fun q => f8_mailSlot_L2 s μ (nI (st + i)) q.1 q.2) (fun b (_ : Unit) => (nI (k - cnt (mp N S st) (48 * i + 6 * b)), nI b)) (fun b _ => cnt (mp N S st) (48 * i + 6 * b) ≤ k) (nB N) (MF N S st k) (fun r => r = (nI (k - cnt (mp N S st) (48 * (i + 1))), nI (nB N)) ∧ cnt (mp N S st) (48 * (i + 1)) ≤ k) ?_ ?_ (nB N) 0 1000000 () (by omega) (by omega) (by omega) hc
  · intro b x hb hle
    have start : f8_mailSlot_L2 s μ (nI (st + i)) (nI (k - cnt (mp N S st) (48 * i + 6 * b))) (nI b) = (zloop (fun q => f8_mailSlot_L3 s μ (nI (st + i)) (nI b) q.1 q.2) 1000000 (nI (k - cnt (mp N S st) (48 * i + 6 * b)), 0)).bind fun r17 => Sum.elim (fun v => some (.inr (.inl v))) (zq2 fun v_left_13 v_p_14 => (some (nI b + 1)).bind fun v_b_24 => some (.inl (v_left_13, v_b_24))) r17 := by
      unfold f8_mailSlot_L2
      rw [h.c_wir, obs, h.w_b, clt_nI (by omega) (by omega), decide_eq_true hb, if_pos rfl]
    rcases C_ms3 h hs hk hi hb hle with ⟨v, e, hv⟩ | ⟨r, e, rfl, hr⟩
    · rw [e, obs] at start
      exact Or.inr ⟨v, start, hv⟩
    · rw [e, obs] at start
      refine Or.inl ⟨(), ?_, ?_⟩
      · rw [← mp_gap nw hb, ← nI_1]; exact start
      · rw [← mp_gap nw hb]; exact hr
  · intro x hle
    rw [mp_gap2 nw] at hle
    refine ⟨_, ?_, rfl, hle⟩
    show f8_mailSlot_L2 s μ (nI (st + i)) (nI (k - cnt (mp N S st) (48 * i + 6 * nB N))) (nI (nB N)) = _
    unfold f8_mailSlot_L2
    rw [h.c_wir, obs, h.w_b, clt_nI (by omega) (by omega), decide_eq_false (by omega), if_neg (by decide), mp_gap2 nw]
theorem C_mslot (h : CS N s w μ0 μ S) (h0 : S 44 0 = nI st) (hs : st + 3 < 2 ^ 31) (hk : k < 2 ^ 31) : ∃ v, f8_mailSlot s (nI k) μ = some v ∧ (MF N S st k v ∨ v = -1 ∧ cnt (mp N S st) 144 ≤ k) := by
  have key := lpX (body := fun q => f8_mailSlot_L1 s μ q.1 q.2) (fun i (_ : Unit) => (nI (k - cnt (mp N S st) (48 * i)), nI (st + i))) (fun i _ => cnt (mp N S st) (48 * i) ≤ k) 3 (MF N S st k) (fun r => r = (nI (k - cnt (mp N S st) 144), nI (st + 3)) ∧ cnt (mp N S st) 144 ≤ k) (by
    intro i x hi hle
    have start : f8_mailSlot_L1 s μ (nI (k - cnt (mp N S st) (48 * i))) (nI (st + i)) = (zloop (fun q => f8_mailSlot_L2 s μ (nI (st + i)) q.1 q.2) 1000000 (nI (k - cnt (mp N S st) (48 * i)), 0)).bind fun r10 => Sum.elim (fun v => some (.inr (.inl v))) (zq2 fun v_left_8 v_b_9 => (some (nI (st + i) + 1)).bind fun v_arrives_25 => some (.inl (v_left_8, v_arrives_25))) r10 := by
      unfold f8_mailSlot_L1
      rw [h.c_step, h0, addR3, clt_nI (by omega) (by omega), decide_eq_true (by omega), if_pos rfl]
    rcases C_ms2 h hs hk hi hle with ⟨v, e, hv⟩ | ⟨r, e, rfl, hr⟩
    · rw [e, obs] at start
      exact Or.inr ⟨v, start, hv⟩
    · rw [e, obs] at start
      refine Or.inl ⟨(), ?_, hr⟩
      rw [show nI (st + (i + 1)) = nI (st + i) + 1 from (nI_1 _).symm]; exact start) (by
    intro x hle
    refine ⟨_, ?_, rfl, hle⟩
    show f8_mailSlot_L1 s μ _ (nI (st + 3)) = _
    unfold f8_mailSlot_L1
    rw [h.c_step, h0, addR3, clt_nI (by omega) (by omega), decide_eq_false (by omega), if_neg (by decide)]) 3 0 1000000 () (by omega) (by omega) (by omega) (Nat.zero_le _)
  unfold f8_mailSlot
  rw [obs, h.c_step, h0]
  rcases key with ⟨v, e, hv⟩ | ⟨r, e, rfl, hr⟩
  · exact ⟨v, by rw [show (nI k, nI st) = (nI (k - cnt (mp N S st) (48 * 0)), nI (st + 0)) from rfl, e, obs]; rfl, Or.inl hv⟩
  · exact ⟨-1, by rw [show (nI k, nI st) = (nI (k - cnt (mp N S st) (48 * 0)), nI (st + 0)) from rfl, e, obs]; rfl, Or.inr ⟨rfl, hr⟩⟩
end zJ0
