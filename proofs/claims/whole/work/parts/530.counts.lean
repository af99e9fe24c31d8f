/-! COUNTS, both -/
theorem len_cnt (p : Nat → Bool) : ∀ (n : Nat) (l : List Nat), l.Nodup → (∀ q, q ∈ l ↔ q < n ∧ p q = true) → l.length = cnt p n
  | 0, l, _, h => by
    cases l with
    | nil => rfl
    | cons a t => exact absurd ((h a).mp (List.mem_cons_self ..)).1 (by omega)
  | n + 1, l, hn, h => by
    rw [cnt_s]
    cases c : p n with
    | false =>
      rw [if_neg (by decide)]
      refine len_cnt p n l hn (fun q => ?_)
      rw [h q]
      constructor
      · intro x
        refine ⟨?_, x.2⟩
        have : q ≠ n := fun e => by rw [e, c] at x; exact absurd x.2 (by decide)
        omega
      · intro x; exact ⟨by omega, x.2⟩
    | true =>
      rw [if_pos rfl]
      have hm : n ∈ l := (h n).mpr ⟨by omega, c⟩
      have e1 := List.length_erase_of_mem hm
      have e2 := len_cnt p n (l.erase n) (hn.erase n) (fun q => by
        rw [hn.mem_erase_iff, h q]
        constructor
        · intro x; exact ⟨by have := x.1; omega, x.2.2⟩
        · intro x; exact ⟨by omega, by omega, x.2⟩)
      have pos : 0 < l.length := List.length_pos_of_mem hm
      omega
section zH0
variable {N : zN} {s w m B st : Nat} {μ0 μ ν0 ν : zM} {S : zS} {l : Nat}
theorem C_cntOn (h : CS N s w μ0 μ S) : f8_countOn s μ = some (nI (cnt (fun b => ceq (S 20 b) 1) (nB N))) := by
  have b8 := h.nw.b8
  obtain ⟨r, e, rfl⟩ := zloop_up (body := fun q => f8_countOn_L1 s μ q.1 q.2) (fun i (_ : Unit) => (nI (cnt (fun b => ceq (S 20 b) 1) i), nI i)) (fun _ _ => True) (nB N) (fun r => r = (nI (cnt (fun b => ceq (S 20 b) 1) (nB N)), nI (nB N))) (by
    intro i x hi _
    refine ⟨(), ?_, trivial⟩
    show f8_countOn_L1 s μ (nI (cnt (fun b => ceq (S 20 b) 1) i)) (nI i) = _
    unfold f8_countOn_L1
    rw [h.c_wir, obs, h.w_b, clt_nI (by omega) (by omega), decide_eq_true hi, if_pos rfl, rI_nI (by omega) (by omega), obs, h.r_on (by omega), cnt_s]
    cases ceq (S 20 i) 1 with
    | true => rw [if_pos rfl, if_pos rfl, obs, obs, obs, nI_1, nI_1]
    | false => rw [if_neg (by decide), if_neg (by decide), obs, obs, obs, nI_1, show ∀ a, nI a + 0 = nI (a + 0) from fun a => nI_add a 0]; rfl) (by
    intro x _
    refine ⟨_, ?_, rfl⟩
    show f8_countOn_L1 s μ _ (nI (nB N)) = _
    unfold f8_countOn_L1
    rw [h.c_wir, obs, h.w_b, clt_nI (by omega) (by omega), decide_eq_false (by omega), if_neg (by decide)]) (nB N) 0 1000000 () (by omega) (by omega) (by omega) trivial
  unfold f8_countOn
  rw [show ((0 : Int32), (0 : Int32)) = (nI (cnt (fun b => ceq (S 20 b) 1) 0), nI 0) from rfl, e, ozb2]
theorem C_cntWh (h : CS N s w μ0 μ S) : f8_countWhole s μ = some (nI (cnt (fun b => ceq (S 40 b) 1) (nL N))) := by
  have l14 := h.nw.l14
  obtain ⟨r, e, rfl⟩ := zloop_up (body := fun q => f8_countWhole_L1 s μ q.1 q.2) (fun i (_ : Unit) => (nI (cnt (fun b => ceq (S 40 b) 1) i), nI i)) (fun _ _ => True) (nL N) (fun r => r = (nI (cnt (fun b => ceq (S 40 b) 1) (nL N)), nI (nL N))) (by
    intro i x hi _
    refine ⟨(), ?_, trivial⟩
    show f8_countWhole_L1 s μ (nI (cnt (fun b => ceq (S 40 b) 1) i)) (nI i) = _
    unfold f8_countWhole_L1
    have ew : gZ μ (s + 4) i = ceq (S 40 i) 1 := by rw [← h.c_whole i (by omega), bI_c]
    rw [h.c_wir, obs, h.w_l, clt_nI (by omega) (by omega), decide_eq_true hi, if_pos rfl, rZ_nI (by omega) (by omega), obs, ew, cnt_s]
    cases ceq (S 40 i) 1 with
    | true => rw [if_pos rfl, if_pos rfl, obs, obs, obs, nI_1, nI_1]
    | false => rw [if_neg (by decide), if_neg (by decide), obs, obs, obs, nI_1, show ∀ a, nI a + 0 = nI (a + 0) from fun a => nI_add a 0]; rfl) (by
    intro x _
    refine ⟨_, ?_, rfl⟩
    show f8_countWhole_L1 s μ _ (nI (nL N)) = _
    unfold f8_countWhole_L1
    rw [h.c_wir, obs, h.w_l, clt_nI (by omega) (by omega), decide_eq_false (by omega), if_neg (by decide)]) (nL N) 0 1000000 () (by omega) (by omega) (by omega) trivial
  unfold f8_countWhole
  rw [show ((0 : Int32), (0 : Int32)) = (nI (cnt (fun b => ceq (S 40 b) 1) 0), nI 0) from rfl, e, ozb2]
theorem C_cntMl (h : CS N s w μ0 μ S) : f8_countMail s μ = some (nI (cnt (fun b => ceq (S 60 b) 1) (6 * nL N))) := by
  have l14 := h.nw.l14
  have e2 : (2 * nI (nL N)) * 3 = nI (6 * nL N) := by rw [mulQ2, mulR3, show 2 * nL N * 3 = 6 * nL N by omega]
  obtain ⟨r, e, rfl⟩ := zloop_up (body := fun q => f8_countMail_L1 s μ q.1 q.2) (fun i (_ : Unit) => (nI (cnt (fun b => ceq (S 60 b) 1) i), nI i)) (fun _ _ => True) (6 * nL N) (fun r => r = (nI (cnt (fun b => ceq (S 60 b) 1) (6 * nL N)), nI (6 * nL N))) (by
    intro i x hi _
    refine ⟨(), ?_, trivial⟩
    show f8_countMail_L1 s μ (nI (cnt (fun b => ceq (S 60 b) 1) i)) (nI i) = _
    unfold f8_countMail_L1
    have ew : gB μ 301 (s + 93 + 2 * i) = ceq (S 60 i) 1 := by rw [← h.c_there i (by omega), bI_c]
    rw [h.c_wir, obs, h.w_l, e2, clt_nI (by omega) (by omega), decide_eq_true hi, if_pos rfl, rI_nI (by omega) (by omega), obs, ew, cnt_s]
    cases ceq (S 60 i) 1 with
    | true => rw [if_pos rfl, if_pos rfl, obs, obs, obs, nI_1, nI_1]
    | false => rw [if_neg (by decide), if_neg (by decide), obs, obs, obs, nI_1, show ∀ a, nI a + 0 = nI (a + 0) from fun a => nI_add a 0]; rfl) (by
    intro x _
    refine ⟨_, ?_, rfl⟩
    show f8_countMail_L1 s μ _ (nI (6 * nL N)) = _
    unfold f8_countMail_L1
    rw [h.c_wir, obs, h.w_l, e2, clt_nI (by omega) (by omega), decide_eq_false (by omega), if_neg (by decide)]) (6 * nL N) 0 1000000 () (by omega) (by omega) (by omega) trivial
  unfold f8_countMail
  rw [show ((0 : Int32), (0 : Int32)) = (nI (cnt (fun b => ceq (S 60 b) 1) 0), nI 0) from rfl, e, ozb2]
theorem R_cntMl (q : MS N m B ν0 ν S) (mi : MI N st S) : f12_its m 2 ν = some (nI (cnt (fun b => ceq (S 60 b) 1) (6 * nL N))) := by
  have m11 := q.1.2.2.2.2.2.2.2.2.2.2.2
  rw [show f12_its m 2 ν = some (rw_ m B ν 2) from q.its (k := 2) (by omega), m11.2.2.1]
  congr 2
  refine len_cnt _ _ _ m11.1 (fun x => ?_)
  rw [m11.2.1 x]
  constructor
  · intro h
    refine ⟨h.1, ceq_t ?_⟩
    rw [(mi x h.1).1]; exact h.2
  · intro h
    refine ⟨h.1, ?_⟩
    rw [← (mi x h.1).1]; exact ceq_of h.2
/-- a sum of numbers that are 0 or 1 -/
theorem R_cntOf {a d n : Nat} {g : Nat → Int32} (q : MS N m B ν0 ν S) (hn : n < 1000000) (ha : a + d * n < 2874 + d) (hg : ∀ k, k < n → rw_ m B ν (a + d * k) = g k ∧ (g k = 0 ∨ g k = 1)) : f12_countOf m (nI a) (nI n) (nI d) ν = some (nI (cnt (fun b => ceq (g b) 1) n)) := by
  obtain ⟨r, e, rfl⟩ := zloop_up (body := fun x => f12_countOf_L1 m (nI a) (nI n) (nI d) ν x.1 x.2) (fun i (_ : Unit) => (nI (cnt (fun b => ceq (g b) 1) i), nI i)) (fun _ _ => True) n (fun r => r = (nI (cnt (fun b => ceq (g b) 1) n), nI n)) (by
    intro i x hi _
    refine ⟨(), ?_, trivial⟩
    show f12_countOf_L1 m (nI a) (nI n) (nI d) ν (nI (cnt (fun b => ceq (g b) 1) i)) (nI i) = _
    have lt : a + d * i < 2874 := by
      have : d * (i + 1) ≤ d * n := Nat.mul_le_mul_left d hi
      rw [Nat.mul_add, Nat.mul_one] at this
      omega
    obtain ⟨g1, g2⟩ := hg i hi
    unfold f12_countOf_L1
    rw [clt_nI (by omega) (by omega), decide_eq_true hi, if_pos rfl, pk_mul, nI_add, q.its lt, obs, g1, obs, obs, nI_1, cnt_s]
    rcases g2 with g2 | g2
    · rw [g2, show ceq (0 : Int32) 1 = false from rfl, if_neg (by decide), show ∀ a, nI a + 0 = nI (a + 0) from fun a => nI_add a 0]; rfl
    · rw [g2, show ceq (1 : Int32) 1 = true from rfl, if_pos rfl, nI_1]) (by
    intro x _
    refine ⟨_, ?_, rfl⟩
    show f12_countOf_L1 m (nI a) (nI n) (nI d) ν _ (nI n) = _
    unfold f12_countOf_L1
    rw [clt_nI (by omega) (by omega), decide_eq_false (by omega), if_neg (by decide)]) n 0 1000000 () (by omega) (by omega) (by omega) trivial
  unfold f12_countOf
  rw [show ((0 : Int32), (0 : Int32)) = (nI (cnt (fun b => ceq (g b) 1) 0), nI 0) from rfl, e, ozb2]
theorem R_cntOpen (q : MS N m B ν0 ν S) : f12_openLinks m ν = some (nI (cnt (opn S) (nL N))) := by
  have l14 := q.nw.l14
  obtain ⟨r, e, rfl⟩ := zloop_up (body := fun x => f12_openLinks_L1 m ν x.1 x.2) (fun i (_ : Unit) => (nI (cnt (opn S) i), nI i)) (fun _ _ => True) (nL N) (fun r => r = (nI (cnt (opn S) (nL N)), nI (nL N))) (by
    intro i x hi _
    refine ⟨(), ?_, trivial⟩
    show f12_openLinks_L1 m ν (nI (cnt (opn S) i)) (nI i) = _
    unfold f12_openLinks_L1
    rw [q.g_l, clt_nI (by omega) (by omega), decide_eq_true hi, if_pos rfl, R_opn q hi, obs, cnt_s]
    cases opn S i with
    | true => rw [if_pos rfl, if_pos rfl, obs, obs, obs, nI_1, nI_1]
    | false => rw [if_neg (by decide), if_neg (by decide), obs, obs, obs, nI_1, show ∀ a, nI a + 0 = nI (a + 0) from fun a => nI_add a 0]; rfl) (by
    intro x _
    refine ⟨_, ?_, rfl⟩
    show f12_openLinks_L1 m ν _ (nI (nL N)) = _
    unfold f12_openLinks_L1
    rw [q.g_l, clt_nI (by omega) (by omega), decide_eq_false (by omega), if_neg (by decide)]) (nL N) 0 1000000 () (by omega) (by omega) (by omega) trivial
  unfold f12_openLinks
  rw [show ((0 : Int32), (0 : Int32)) = (nI (cnt (opn S) 0), nI 0) from rfl, e, ozb2]
end zH0
