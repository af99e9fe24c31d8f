/-! CLASS: how many open links could be shut -/
def nwl (L : Nat → Nat) (b : Nat) : Bool := pfold (fun c x => x && !(decide (L c = L b))) b true
def imL (L : Nat → Nat) (n v : Nat) : Bool := pfold (fun b x => x || decide (L b = v)) n false
section zE4
variable {N : zN} {s w o m B n A : Nat} {μ0 μ μ' ν0 ν ν' : zM} {S S' : zS} {a b c d e f i j k l r x y : Nat} {L : Nat → Nat} {v : Int32} {p p' : Nat → Bool}
theorem nwl_im : ∀ n, pfold (fun c x => x && !(decide (L c = L b))) n true = !(imL L n (L b))
  | 0 => rfl
  | n + 1 => by
    show (pfold (fun c x => x && !(decide (L c = L b))) n true && !(decide (L n = L b))) = !(imL L n (L b) || decide (L n = L b))
    rw [nwl_im n, Bool.not_or]
theorem im_s : imL L (n + 1) k = (imL L n k || decide (L n = k)) := rfl
theorem cnt_nwl (hL : ∀ b, b < m → L b < m) : ∀ n, n ≤ m → cnt (nwl L) n = cnt (imL L n) m
  | 0, _ => by
    have : ∀ n, cnt (imL L 0) n = 0 := by
      intro n
      induction n with
      | zero => rfl
      | succ n ih => rw [cnt_s, ih]; rfl
    rw [this]; rfl
  | n + 1, hn => by
    rw [cnt_s, cnt_nwl hL n (by omega), show nwl L n = !(imL L n (L n)) from nwl_im n]
    cases c : imL L n (L n) with
    | true =>
      rw [if_neg (by decide)]
      refine (cnt_eq m (fun i hi => ?_)).symm
      rw [im_s]
      by_cases c2 : L n = i
      · rw [← c2, c]; rfl
      · rw [decide_eq_false c2, Bool.or_false]
    | false =>
      rw [if_pos (by decide)]
      refine (cnt_up (k := L n) m (hL n (by omega)) c ?_ (fun i hi hk => ?_)).symm
      · rw [im_s, decide_eq_true rfl, Bool.or_true]
      · rw [im_s, decide_eq_false (fun h => hk h.symm), Bool.or_false]
theorem im_iff : ∀ n, imL L n k = true ↔ ∃ b, b < n ∧ L b = k
  | 0 => ⟨fun h => (nomatch h), fun ⟨b, h, _⟩ => absurd h (by omega)⟩
  | n + 1 => by
    rw [im_s, Bool.or_eq_true, im_iff n, decide_eq_true_iff]
    constructor
    · intro h
      rcases h with ⟨b, h1, h2⟩ | h
      · exact ⟨b, by omega, h2⟩
      · exact ⟨n, by omega, h⟩
    · intro ⟨b, h1, h2⟩
      by_cases c : b < n
      · exact Or.inl ⟨b, c, h2⟩
      · exact Or.inr (by rw [← h2, show b = n by omega])
theorem cnt_fx (h : LI N L) : cnt (nwl L) (nB N) = cnt (fx L) (nB N) := by
  rw [cnt_nwl (fun b hb => (h b hb).1) (nB N) (Nat.le_refl _)]
  refine cnt_eq (nB N) (fun i hi => ?_)
  unfold fx
  rw [Bool.eq_iff_iff, im_iff, decide_eq_true_iff]
  constructor
  · intro ⟨b, h1, h2⟩
    rw [← h2]; exact (h b h1).2
  · intro h1
    exact ⟨i, hi, h1⟩
theorem C_new (K : zM → Prop) (q : LQ K (o + 1) μ L) (hb : b < 8) (hL : ∀ b, b < 8 → L b < 8) : zloop (fun s => f6_countSpare_L2 o μ (nI b) s.1 s.2) 1000000 (true, 0) = some (nwl L b, nI b) := by
  obtain ⟨r, e, rfl⟩ := zloop_up (body := fun s => f6_countSpare_L2 o μ (nI b) s.1 s.2) (fun i (_ : Unit) => (pfold (fun c x => x && !(decide (L c = L b))) i true, nI i)) (fun _ _ => True) b (fun r => r = (nwl L b, nI b)) (by
    intro i x hi _
    refine ⟨(), ?_, trivial⟩
    have es : pfold (fun c x => x && !(decide (L c = L b))) (i + 1) true = (pfold (fun c x => x && !(decide (L c = L b))) i true && !(decide (L i = L b))) := rfl
    rw [es]
    generalize pfold (fun c x => x && !(decide (L c = L b))) i true = y
    show f6_countSpare_L2 o μ (nI b) y (nI i) = _
    have h1 := hL i (by omega); have h2 := hL b hb
    unfold f6_countSpare_L2
    rw [clt_nI (by omega) (by omega), decide_eq_true hi, if_pos rfl, rA_nI (by omega) (by omega), obs, rA_nI (by omega) (by omega), obs, q.2 i (by omega), q.2 b hb, ceq_nI (by omega) (by omega), nI_1]
    cases y <;> rfl) (by
    intro x _
    refine ⟨_, ?_, rfl⟩
    show f6_countSpare_L2 o μ (nI b) (nwl L b) (nI b) = _
    unfold f6_countSpare_L2
    rw [clt_nI (by omega) (by omega), decide_eq_false (by omega), if_neg (by decide)]) b 0 1000000 () (by omega) (by omega) (by omega) trivial
  exact e
theorem C_cntOpen (h : CS N s w μ0 μ S) : f8_countOpen s μ = some (nI (cnt (opn S) (nL N))) := by
  have l14 := h.nw.l14
  obtain ⟨r, e, rfl⟩ := zloop_up (body := fun q => f8_countOpen_L1 s μ q.1 q.2) (fun i (_ : Unit) => (nI (cnt (opn S) i), nI i)) (fun _ _ => True) (nL N) (fun r => r = (nI (cnt (opn S) (nL N)), nI (nL N))) (by
    intro i x hi _
    refine ⟨(), ?_, trivial⟩
    show f8_countOpen_L1 s μ (nI (cnt (opn S) i)) (nI i) = _
    unfold f8_countOpen_L1
    rw [h.c_wir, obs, h.w_l, clt_nI (by omega) (by omega), decide_eq_true hi, if_pos rfl, C_opn h hi, obs, cnt_s]
    cases opn S i with
    | true => rw [if_pos rfl, if_pos rfl, obs, obs, obs, nI_1, nI_1]
    | false => rw [if_neg (by decide), if_neg (by decide), obs, obs, obs, nI_1, show nI (cnt (opn S) i) + 0 = nI (cnt (opn S) i + 0) from nI_add _ 0]; rfl) (by
    intro x _
    refine ⟨_, ?_, rfl⟩
    show f8_countOpen_L1 s μ (nI (cnt (opn S) (nL N))) (nI (nL N)) = _
    unfold f8_countOpen_L1
    rw [h.c_wir, obs, h.w_l, clt_nI (by omega) (by omega), decide_eq_false (by omega), if_neg (by decide)]) (nL N) 0 1000000 () (by omega) (by omega) (by omega) trivial
  unfold f8_countOpen
  rw [show ((0 : Int32), (0 : Int32)) = (nI (cnt (opn S) 0), nI 0) from rfl, e, ozb2]
theorem i_sub (h : a + c = d + b) : nI a - nI b + nI c = nI d := by
  have e : nI a + nI c = nI d + nI b := by rw [nI_add, nI_add, h]
  have : nI a - nI b + nI c = (nI a + nI c) - nI b := by
    rw [Int32.sub_eq_add_neg, Int32.sub_eq_add_neg, Int32.add_assoc, Int32.add_comm (-(nI b)), ← Int32.add_assoc]
  rw [this, e, Int32.add_sub_cancel]
theorem C_spare (h : CS N s w μ μ S) (ho : Out o 3 s w) : ∃ μ', f6_countSpare o s μ = some (nI (morN N S (-1)), μ') ∧ CS N s w μ' μ' S ∧ FrD o 3 μ μ' := by
  have nw := h.nw
  have b8 := nw.b8
  obtain ⟨μ1, e1, q1⟩ := C_lab (v := -1) h ho
  obtain ⟨i1, i2⟩ := lab_i (S := S) (v := -1) nw (nL N) (Nat.le_refl _)
  rw [mor_2] at i1 i2
  have i3 := i2 rfl
  have l8 := lab_8 (S := S) (v := -1) nw (nL N) (Nat.le_refl _)
  obtain ⟨r, e2, rfl⟩ := zloop_up (body := fun q => f6_countSpare_L1 o s μ1 q.1 q.2) (fun i (_ : Unit) => (nI (cnt (nwl (lab N S (-1))) i), nI i)) (fun _ _ => True) (nB N) (fun r => r = (nI (cnt (nwl (lab N S (-1))) (nB N)), nI (nB N))) (by
    intro i x hi _
    refine ⟨(), ?_, trivial⟩
    show f6_countSpare_L1 o s μ1 (nI (cnt (nwl (lab N S (-1))) i)) (nI i) = _
    unfold f6_countSpare_L1
    rw [q1.1.1.c_wir, obs, q1.1.1.w_b, clt_nI (by omega) (by omega), decide_eq_true hi, if_pos rfl, C_new _ q1 (by omega) l8, ozb2, cnt_s]
    cases nwl (lab N S (-1)) i with
    | true => rw [if_pos rfl, if_pos rfl, obs, obs, obs, nI_1, nI_1]
    | false => rw [if_neg (by decide), if_neg (by decide), obs, obs, obs, nI_1, show nI (cnt (nwl (lab N S (-1))) i) + 0 = nI (cnt (nwl (lab N S (-1))) i + 0) from nI_add _ 0]; rfl) (by
    intro x _
    refine ⟨_, ?_, rfl⟩
    show f6_countSpare_L1 o s μ1 (nI (cnt (nwl (lab N S (-1))) (nB N))) (nI (nB N)) = _
    unfold f6_countSpare_L1
    rw [q1.1.1.c_wir, obs, q1.1.1.w_b, clt_nI (by omega) (by omega), decide_eq_false (by omega), if_neg (by decide)]) (nB N) 0 1000000 () (by omega) (by omega) (by omega) trivial
  refine ⟨μ1, ?_, q1.1⟩
  unfold f6_countSpare
  rw [e1, obs, show ((0 : Int32), (0 : Int32)) = (nI (cnt (nwl (lab N S (-1))) 0), nI 0) from rfl, e2, ozb2, C_cntOpen q1.1.1, obs, q1.1.1.c_wir, obs, q1.1.1.w_b, cnt_fx (show LI N (lab N S (-1)) from i1)]
  rw [i_sub (a := cnt (opn S) (nL N)) (b := nB N) (c := cnt (fx (lab N S (-1))) (nB N)) (d := morN N S (-1)) i3]
end zE4
