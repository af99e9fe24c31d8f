/-! CLASS: what is found to be due -/
/-- the tables of roots, costs, root ports and roles are `T` -/
def DF (N : zN) (s w o : Nat) (S : zS) (μ0 μ : zM) (W : Nat → Nat) (T : zS) : Prop := DQ N s w o S μ0 μ W ∧ ∀ d i, 2 ≤ d → d ≤ 5 → gA μ (o + d) i = T d i
def rOK (N : zN) (S T : zS) (n : Nat) : Prop := ∀ b, b < n → S 20 b = 1 → T 2 b = idS S (rtR N S b) ∧ T 3 b = nI (wW N S (8 * b + rtR N S b))
def pOK (N : zN) (S T : zS) (n : Nat) : Prop := ∀ b, b < n → S 20 b = 1 → T 4 b = oI (rpD N S b)
def DOK (N : zN) (S T : zS) : Prop := rOK N S T (nB N) ∧ pOK N S T (nB N) ∧ ∀ e, e < 2 * nL N → T 5 e = rlD N S e
/-- a vector of the class -/
def VV (μ : zM) (a : Nat) (r c d p : Int32) : Prop := gF μ 900 a = r ∧ gF μ 901 a = c ∧ gF μ 902 a = d ∧ gF μ 903 a = p
theorem wW_b {N : zN} {S : zS} {k : Nat} (nw : NW N) : wW N S k ≤ 1000000 := (wW_lt nw (n := 8) (by omega) k).1
def rtq (S : zS) (i : Nat) (x : Option Nat) : Bool := match x with
  | none => true
  | some r => clt (idS S i) (idS S r)
theorem rtC_q (S : zS) (W : Nat → Nat) (b i : Nat) (x : Option Nat) : rtC S W b i x = if (nr W b i && rtq S i x) = true then some i else x := rfl
section zD4
variable {N : zN} {s w o n : Nat} {μ0 μ μ' : zM} {S T T' : zS} {a b c d e f i j k r p : Nat} {v : Int32} {W : Nat → Nat}
theorem DF.wT (q : DF N s w o S μ0 μ W T) (ho : Out o 8 s w) (h1 : 2 ≤ d) (h2 : d ≤ 5) : DF N s w o S μ0 (sA μ (o + d) i v) W (zu T d i v) := by
  refine ⟨⟨q.1.1.fd ho (FrD.rf.wA (by omega) (by omega)), q.1.2.1.wA (by omega) (by omega), fun k hk => ?_⟩, fun d' i' h3 h4 => ?_⟩
  · rw [gA_sA, if_neg (by omega)]; exact q.1.2.2 k hk
  · rw [gA_sA]
    show _ = if d' = d ∧ i' = i then v else T d' i'
    by_cases x : d' = d ∧ i' = i
    · rw [if_pos (by omega), if_pos x]
    · rw [if_neg (by omega), if_neg x]; exact q.2 d' i' h3 h4
theorem DF.wV (q : DF N s w o S μ0 μ W T) (ho : Out o 8 s w) (ha : a = o + 6 ∨ a = o + 7) : DF N s w o S μ0 (sF μ k a v) W T :=
  ⟨⟨q.1.1.fd ho (FrD.rf.wF (by omega) (by omega)), q.1.2.1.wF (by omega) (by omega), q.1.2.2⟩, q.2⟩
theorem id_m1 (hb : b < 8) : idS S b ≠ -1 := fun h => by
  unfold idS at h
  have e := congrArg (fun z : Int32 => z.toBitVec.toNat % 16) h
  simp only [Int32.toBitVec_add, Int32.toBitVec_mul, BitVec.toNat_add, BitVec.toNat_mul] at e
  have n1 : (nI b).toBitVec.toNat = b := by
    show (BitVec.ofNat 32 b).toNat = b
    rw [BitVec.toNat_ofNat]; exact Nat.mod_eq_of_lt (by omega)
  have n3 : (16 : Int32).toBitVec.toNat = 16 := by decide
  have n4 : (-1 : Int32).toBitVec.toNat = 4294967295 := by decide
  rw [n1, n3, n4] at e
  omega
/-- the root's entries for `b` -/
def RB (N : zN) (W : Nat → Nat) (S T T' : zS) (b : Nat) (x : Option Nat) : Prop := (∀ d i, d ≤ 5 → (d = 2 ∨ d = 3 → i ≠ b) → T' d i = T d i) ∧ (match x with
  | none => T' 2 b = -1
  | some r => r < nB N ∧ T' 2 b = idS S r ∧ T' 3 b = nI (W (8 * b + r)))
theorem C_root (q : DF N s w o S μ0 μ W T) (ho : Out o 8 s w) (hb : b < nB N) (hW : ∀ k, W k ≤ 1000000) : ∃ μ' T', f1_findRoot o s (nI b) μ = some μ' ∧ DF N s w o S μ0 μ' W T' ∧ RB N W S T T' b (pfold (rtC S W b) (nB N) none) := by
  have nw := q.1.1.nw
  have b8 := nw.b8
  have q0 := q.wT (d := 2) (i := b) (v := -1) ho (by omega) (by omega)
  have r0 : RB N W S T (zu T 2 b (-1)) b none := ⟨fun d i h1 h2 => if_neg (fun x => h2 (Or.inl x.1) x.2), if_pos ⟨rfl, rfl⟩⟩
  obtain ⟨μ1, e1, T1, q1, r1⟩ := lp (Q := fun μ x => ∃ T', DF N s w o S μ0 μ W T' ∧ RB N W S T T' b x) (body := fun q => f1_findRoot_L1 o s (nI b) q.1 q.2) nI (rtC S W b) (nB N) (S := none) (μ := sA μ (o + 2) b (-1)) (x0 := 0) (by
    intro i μ1 hi ⟨T1, q1, r1⟩
    have hlt := hW (b * 8 + i)
    generalize pfold (rtC S W b) i none = x at *
    show ∃ μ', f1_findRoot_L1 o s (nI b) (nI i) μ1 = some (.inl (nI (i + 1), μ')) ∧ ∃ T', DF N s w o S μ0 μ' W T' ∧ RB N W S T T' b (rtC S W b i x)
    have ek : gA μ1 (o + 1) (b * 8 + i) = nI (W (8 * b + i)) := by rw [q1.1.2.2 _ (by omega), show b * 8 + i = 8 * b + i by omega]
    have ec : clt (gA μ1 (o + 1) (b * 8 + i)) 1000000 = nr W b i := by
      rw [ek]
      show clt (nI _) (nI 1000000) = _
      rw [clt_nI (by rw [show 8 * b + i = b * 8 + i by omega]; omega) (by omega)]; rfl
    have cond : (((rA μ1 (o + 1) 64 ((nI b * 8) + nI i)).bind fun t19 => some (clt t19 1000000)).bind fun b15 => if b15 = true then (((rA μ1 (o + 2) 8 (nI b)).bind fun t18 => some (ceq t18 (-1))).bind fun b16 => if b16 = true then (some true) else ((rA μ1 (o + 2) 8 (nI b)).bind fun t17 => some (clt (idS S i) t17))) else (some false)) = some (nr W b i && rtq S i x) := by
      rw [mulR8, nI_add, rA_nI (by omega) (by omega), obs, obs, ec, rA_nI (by omega) (by omega), obs, obs, obs, q1.2 2 b (by omega) (by omega)]
      cases nr W b i with
      | false => rw [if_neg (by decide)]; rfl
      | true =>
        rw [if_pos rfl]
        cases x with
        | none =>
          have h2 : T1 2 b = -1 := r1.2
          rw [h2]; rfl
        | some r =>
          obtain ⟨h1, h2, h3⟩ := r1.2
          rw [h2, ceq_f (id_m1 (by omega)), if_neg (by decide)]; rfl
    unfold f1_findRoot_L1
    rw [q1.1.1.c_wir, obs, q1.1.1.w_b, clt_nI (by omega) (by omega), decide_eq_true hi, if_pos rfl, rI_nI (by omega) (by omega), obs, C_id q1.1.1 (by omega), obs, cond, obs]
    rw [rtC_q]
    by_cases c : (nr W b i && rtq S i x) = true
    · rw [if_pos c, if_pos c]
      have q2 := q1.wT (d := 2) (i := b) (v := idS S i) ho (by omega) (by omega)
      have q3 := q2.wT (d := 3) (i := b) (v := gA μ1 (o + 1) (b * 8 + i)) ho (by omega) (by omega)
      rw [wA_nI (by omega) (by omega), obs, mulR8, nI_add, rA_nI (by omega) (by omega), obs, gA_sA, if_neg (by omega), wA_nI (by omega) (by omega), obs, obs, nI_1]
      refine ⟨_, rfl, _, q3, fun d j h1 h2 => ?_, by omega, ?_, ?_⟩
      · rw [← r1.1 d j h1 h2]
        show (if d = 3 ∧ j = b then _ else if d = 2 ∧ j = b then _ else T1 d j) = _
        rw [if_neg (fun x => h2 (Or.inr x.1) x.2), if_neg (fun x => h2 (Or.inl x.1) x.2)]
      · show (if 2 = 3 ∧ b = b then _ else if 2 = 2 ∧ b = b then _ else T1 2 b) = _
        rw [if_neg (by omega), if_pos ⟨rfl, rfl⟩]
      · show (if 3 = 3 ∧ b = b then _ else if 3 = 2 ∧ b = b then _ else T1 3 b) = _
        rw [if_pos ⟨rfl, rfl⟩, ek]
    · rw [if_neg c, if_neg c, obs, nI_1]
      exact ⟨_, rfl, T1, q1, r1⟩) (by
    intro μ1 ⟨T1, q1, r1⟩
    show f1_findRoot_L1 o s (nI b) (nI (nB N)) μ1 = _
    unfold f1_findRoot_L1
    rw [q1.1.1.c_wir, obs, q1.1.1.w_b, clt_nI (by omega) (by omega), decide_eq_false (by omega), if_neg (by decide)]) (by omega) ⟨_, q0, r0⟩
  refine ⟨μ1, T1, ?_, q1, r1⟩
  unfold f1_findRoot
  rw [wA_nI (by omega) (by omega), obs, e1, ozb2]
theorem C_find1 (q : DQ N s w o S μ0 μ (wW N S)) (ho : Out o 8 s w) : ∃ μ' T, zloop (fun q => f1_find_L1 o s q.1 q.2) 1000000 (0, μ) = some (nI (nB N), μ') ∧ DF N s w o S μ0 μ' (wW N S) T ∧ rOK N S T (nB N) := by
  have nw := q.1.nw
  have b8 := nw.b8
  obtain ⟨μ1, e1, h1⟩ := lp (Q := fun μ n => ∃ T, DF N s w o S μ0 μ (wW N S) T ∧ rOK N S T n) (body := fun q => f1_find_L1 o s q.1 q.2) nI (fun i (_ : Nat) => i + 1) (nB N) (S := 0) (μ := μ) (x0 := 0) (by
    intro i μ1 hi q1
    rw [pf_n] at q1
    obtain ⟨T1, q1, r1⟩ := q1
    show ∃ μ', f1_find_L1 o s (nI i) μ1 = some (.inl (nI (i + 1), μ')) ∧ ∃ T, DF N s w o S μ0 μ' (wW N S) T ∧ rOK N S T (i + 1)
    obtain ⟨μ2, T2, e2, q2, r2⟩ := C_root q1 ho hi (fun k => wW_b nw)
    unfold f1_find_L1
    rw [q1.1.1.c_wir, obs, q1.1.1.w_b, clt_nI (by omega) (by omega), decide_eq_true hi, if_pos rfl, e2, obs, obs, nI_1]
    refine ⟨_, rfl, T2, q2, fun b hb h20 => ?_⟩
    by_cases c : b = i
    · subst c
      rw [rtC_eq nw hi h20] at r2
      exact r2.2.2
    · rw [r2.1 2 b (by omega) (fun _ => c), r2.1 3 b (by omega) (fun _ => c)]
      exact r1 b (by omega) h20) (by
    intro μ1 q1
    rw [pf_n] at q1
    obtain ⟨T1, q1, r1⟩ := q1
    show f1_find_L1 o s (nI (nB N)) μ1 = _
    unfold f1_find_L1
    rw [q1.1.1.c_wir, obs, q1.1.1.w_b, clt_nI (by omega) (by omega), decide_eq_false (by omega), if_neg (by decide)]) (by omega) ⟨fun d i => gA μ (o + d) i, ⟨q, fun d i _ _ => rfl⟩, fun b hb => absurd hb (by omega)⟩
  rw [pf_n] at h1
  obtain ⟨T, h2, h3⟩ := h1
  exact ⟨μ1, T, e1, h2, h3⟩
end zD4
