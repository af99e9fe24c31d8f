/-! REFERENCE: roots, root ports, roles that are due -/
section zD8
variable {N : zN} {m B n : Nat} {ν0 ν ν' : zM} {S : zS} {a b c d e f i j k l r p : Nat} {W : Nat → Nat}
theorem fI_cl (hx : k ≤ 1000000) : clt (nI (fI k)) 100000000 = decide (k < 1000000) := by
  show clt (nI (fI k)) (nI 100000000) = _
  have := fI_lt k
  rw [clt_nI (by omega) (by omega)]
  unfold fI
  by_cases c : k < 1000000
  · rw [if_pos c, decide_eq_true c, decide_eq_true (by omega)]
  · rw [if_neg c, decide_eq_false c, decide_eq_false (by omega)]
theorem rtF_lt {m : Nat} (hb : b < m) : ∀ n, n ≤ m → pfold (rtF S W b) n b < m
  | 0, _ => hb
  | n + 1, hn => by
    have ih := rtF_lt hb n (by omega)
    show rtF S W b n (pfold (rtF S W b) n b) < m
    unfold rtF
    split
    · omega
    · exact ih
theorem R_root (q : EQ N m B S ν0 ν W) (hb : b < nB N) (hW : ∀ k, W k ≤ 1000000) : f12_rootOf m (nI b) ν = some (nI (pfold (rtF S W b) (nB N) b)) := by
  have nw := q.1.nw
  have b8 := nw.b8
  have key := zloop_up (body := fun s => f12_rootOf_L1 m (nI b) ν s.1 s.2) (fun i (_ : Unit) => (nI (pfold (rtF S W b) i b), nI i)) (fun _ _ => True) (nB N) (fun r => r = (nI (pfold (rtF S W b) (nB N) b), nI (nB N))) (by
    intro i x hi _
    refine ⟨(), ?_, trivial⟩
    have lo := rtF_lt (S := S) (W := W) hb i (by omega)
    have es : pfold (rtF S W b) (i + 1) b = rtF S W b i (pfold (rtF S W b) i b) := rfl
    rw [es]
    generalize pfold (rtF S W b) i b = y at *
    show f12_rootOf_L1 m (nI b) ν (nI y) (nI i) = _
    unfold f12_rootOf_L1 rtF
    rw [q.1.g_b, clt_nI (by omega) (by omega), decide_eq_true hi, if_pos rfl, mulQ8, nI_add, rA_nI (by omega) (by omega), obs, obs, q.2.2 _ (by omega), fI_cl (hW _), show f12_idOf m (nI i) ν = some (idS S i) from q.1.id_ hi, obs, show f12_idOf m (nI y) ν = some (idS S y) from q.1.id_ lo, obs]
    rw [show decide (W (8 * b + i) < 1000000) = nr W b i from rfl]
    rw [nI_1]
    simp only [obs]
    cases nr W b i <;> cases clt (idS S i) (idS S y) <;> rfl) (by
    intro x _
    refine ⟨_, ?_, rfl⟩
    show f12_rootOf_L1 m (nI b) ν (nI (pfold (rtF S W b) (nB N) b)) (nI (nB N)) = _
    unfold f12_rootOf_L1
    rw [q.1.g_b, clt_nI (by omega) (by omega), decide_eq_false (by omega), if_neg (by decide)]) (nB N) 0 1000000 () (by omega) (by omega) (by omega) trivial
  obtain ⟨r, e1, rfl⟩ := key
  unfold f12_rootOf
  rw [show (nI b, (0 : Int32)) = (nI (pfold (rtF S W b) 0 b), nI 0) from rfl, e1, ozb2]
theorem R_rt (q : EQ N m B S ν0 ν (wW N S)) (hb : b < nB N) : f12_rootOf m (nI b) ν = some (nI (rtR N S b)) := R_root q hb (fun k => wW_b q.1.nw)
theorem vlt_s {a b c d a' b' c' d' : Int32} (h : clt d d' = false) : vlt a b c d a' b' c' d' = vlt 0 a b c 0 a' b' c' := by
  unfold vlt
  rw [h, ceq_rf, if_pos rfl]
  by_cases x : ceq a a' = true
  · rw [if_pos x, if_pos x]
    by_cases y : ceq b b' = true
    · rw [if_pos y, if_pos y]
      by_cases z : ceq c c' = true
      · rw [if_pos z, clt_ceq z]
      · rw [if_neg z]
    · rw [if_neg y, if_neg y]
  · rw [if_neg x, if_neg x]
theorem fI_id (h : k < 1000000) : fI k = k := if_pos h
theorem R_rport (q : EQ N m B S ν0 ν (wW N S)) (hb : b < nB N) (h20 : S 20 b = 1) : f12_rootPortOf m (nI b) ν = some (oM b (rpD N S b)) := by
  have nw := q.1.nw
  have b8 := nw.b8; have l14 := nw.l14; have p6 := nw.p6 hb
  have rl := (rtR_mn nw hb h20).1
  unfold f12_rootPortOf rpD
  rw [R_rt q hb, obs, ceq_nI (by omega) (by omega)]
  by_cases cr : rtR N S b = b
  · rw [decide_eq_true cr, if_pos rfl, if_pos cr]; rfl
  · rw [decide_eq_false cr, if_neg (by decide), if_neg cr]
    have key := zloop_up (body := fun s => f12_rootPortOf_L1 m (nI b) ν (nI (rtR N S b)) s.1 s.2) (fun i (_ : Unit) => (oM b (pfold (rpF N S b) i none), nI (6 * b + i))) (fun _ _ => True) (nP N b) (fun r => r = (oM b (pfold (rpF N S b) (nP N b) none), nI (6 * b + nP N b))) (by
      intro i x hi _
      refine ⟨(), ?_, trivial⟩
      have el := nw.eo_l hb hi
      have fl := fe_lt el
      have eb := nw.bo_eo hb hi
      have fb := nw.bo_b fl
      have lo := rpF_lt (N := N) (S := S) (b := b) i
      have es : pfold (rpF N S b) (i + 1) none = rpF N S b i (pfold (rpF N S b) i none) := rfl
      rw [es]
      generalize pfold (rpF N S b) i none = y at *
      show f12_rootPortOf_L1 m (nI b) ν (nI (rtR N S b)) (oM b y) (nI (6 * b + i)) = some (.inl (oM b (rpF N S b i y), nI (6 * b + (i + 1))))
      have hlt : 6 * b + i < 6 * b + nP N b := by omega
      have hinc : nI (pl N (eo N b i)) + 1 = nI (6 * b + (i + 1)) := by rw [nw.pl_eo hb hi, nI_1]; rfl
      have rem : ∀ e, e < 2 * nL N → iRem (nI (pl N e)) 6 = some (nI (po N e)) := fun e he => by
        have := nw.pl_48 he
        rw [iRemR6 (by omega), nw.pl_m he]
      unfold f12_rootPortOf_L1
      rw [q.1.g_p hb, obs, pl_add, obs, clt_nI (by omega) (by omega), decide_eq_true hlt, if_pos rfl, plE nw hb hi, q.1.ob el, obs, q.1.up_ el, obs, obs, hinc, ceq_nI (by omega) (by omega)]
      have cc : ((if (!(up N S (eo N b i))) = true then (some true) else (some (decide (bo N (fe (eo N b i)) = b)))) : Option Bool) = some (!(up N S (eo N b i)) || decide (bo N (fe (eo N b i)) = b)) := by cases up N S (eo N b i) <;> rfl
      rw [cc, obs]
      by_cases c : (!(up N S (eo N b i)) || decide (bo N (fe (eo N b i)) = b)) = true
      · rw [if_pos c, rpF_skip c, obs]
      · rw [if_neg c]
        have hu : up N S (eo N b i) = true := by
          cases hh : up N S (eo N b i) with
          | true => rfl
          | false => rw [hh] at c; exact absurd rfl c
        have n1 := rtR_n2 nw el hu
        rw [eb] at n1
        cases y with
        | none =>
          rw [show ceq (oM b none) (-1) = true from rfl, if_pos rfl, obs, if_pos rfl, obs, rpF_none c, ← plE nw hb hi]; rfl
        | some p0 =>
          obtain ⟨lp, up0⟩ := lo p0 rfl
          have hp0 : p0 < nP N b := by omega
          have el0 := nw.eo_l hb hp0
          have fl0 := fe_lt el0
          have fb0 := nw.bo_b fl0
          have eb0 := nw.bo_eo hb hp0
          have n0 := rtR_n2 nw el0 up0
          rw [eb0] at n0
          have c1 : ceq (oM b (some p0)) (-1) = false := oI_none (p := 6 * b + p0) (by omega)
          have om : oM b (some p0) = nI (pl N (eo N b p0)) := plE nw hb hp0
          have cd : clt (nI (pl N (eo N b i))) (nI (pl N (eo N b p0))) = false := by
            rw [nw.pl_eo hb hi, nw.pl_eo hb hp0, clt_nI (by omega) (by omega)]; exact decide_eq_false (by omega)
          rw [c1, if_neg (by decide), om, mulQ8, nI_add, rA_nI (by omega) (by omega), obs, q.1.g_lk el, obs, q.1.g_cst (by omega), obs, show f12_idOf m (nI (bo N (fe (eo N b i)))) ν = some (idS S (bo N (fe (eo N b i)))) from q.1.id_ fb, obs, q.1.op el, obs, rem _ fl, obs, q.1.ob el0, obs, mulQ8, nI_add, rA_nI (by omega) (by omega), obs, q.1.g_lk el0, obs, q.1.g_cst (by omega), obs, obs, show f12_idOf m (nI (bo N (fe (eo N b p0)))) ν = some (idS S (bo N (fe (eo N b p0)))) from q.1.id_ fb0, obs, q.1.op el0, obs, rem _ fl0, obs, isLess_, obs, vlt_s cd, q.2.2 _ (by omega), q.2.2 _ (by omega), fI_id n1, fI_id n0, obs, rpF_some c]
          show (if kls N S (rtR N S b) (eo N b i) (eo N b p0) = true then _ else _) = _
          by_cases c2 : kls N S (rtR N S b) (eo N b i) (eo N b p0) = true
          · rw [if_pos c2, if_pos c2, obs, ← plE nw hb hi]; rfl
          · rw [if_neg c2, if_neg c2, obs, ← om]) (by
      intro x _
      refine ⟨_, ?_, rfl⟩
      show f12_rootPortOf_L1 m (nI b) ν (nI (rtR N S b)) (oM b (pfold (rpF N S b) (nP N b) none)) (nI (6 * b + nP N b)) = _
      unfold f12_rootPortOf_L1
      rw [q.1.g_p hb, obs, pl_add, obs, clt_nI (by omega) (by omega), decide_eq_false (by omega), if_neg (by decide)]) (nP N b) 0 1000000 () (by omega) (by omega) (by omega) trivial
    obtain ⟨r, e1, rfl⟩ := key
    rw [show f12_placeOf (nI b) 0 ν = some (nI (6 * b + 0)) from pl_add b 0, obs, show ((-1 : Int32), nI (6 * b + 0)) = (oM b (pfold (rpF N S b) 0 none), nI (6 * b + 0)) from rfl, e1, ozb2]
end zD8
