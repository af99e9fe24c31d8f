/-! THE LAW: its instructions, over any worlds -/
/-- the law goes on from here, the heap being as P says -/
def lZ (X : zCx) (P : Heap → Prop) (cs ss : Nat) (pc : Nat) (lv : List (Nat × Value)) (st : List Value) : Prop := match X with
  | (p, l, e, R, s, m, args, below, meth, c, nL, Q, D) => ∀ (H : Heap) (locs : List Loc) (ls : Array Slot), P H → va_S (zAf D) s.heap H locs → lv_has ls nL lv → W p l e R s m args below meth c H locs cs ss Q (F0 m pc ls st)
section zLw
variable {K : zKd} {X : zCx} {P P' : Heap → Prop} {cs ss : Nat} {cc : ByteArray} {own : String} {T : zTt} {μ μ' ν ν' : zM} {pc pc' tgt : Nat} {lv lv' : List (Nat × Value)} {st : List Value} {rv : Room} {nv : Nat}
theorem l_iconst (fx : zFix X cc own rv nv) {n : Int} {v : Int32} (hv : Int32.ofInt n = v) (d : zd cc pc (.iconst n) 1 pc') (k : lZ X P cs ss pc' lv (.int v :: st)) : lZ X P cs ss pc lv (st) := by
  obtain ⟨d, rfl⟩ := d
  obtain ⟨p, l, e, R, s, m, args, below, meth, c, nL, Q, D⟩ := X
  obtain ⟨hx, hb, hml, hown, hts, hlk, hK, hTx, hbs, hR, hnv⟩ := fx
  intro H locs ls h1 h3 h4
  exact lv_iconst hx hb d hv (k H locs ls h1 h3 h4)

theorem l_bipush (fx : zFix X cc own rv nv) {n : Int} {v : Int32} (hv : (Int8.ofInt n).toInt32 = v) (d : zd cc pc (.bipush n) 2 pc') (k : lZ X P cs ss pc' lv (.int v :: st)) : lZ X P cs ss pc lv (st) := by
  obtain ⟨d, rfl⟩ := d
  obtain ⟨p, l, e, R, s, m, args, below, meth, c, nL, Q, D⟩ := X
  obtain ⟨hx, hb, hml, hown, hts, hlk, hK, hTx, hbs, hR, hnv⟩ := fx
  intro H locs ls h1 h3 h4
  exact lv_bipush hx hb d hv (k H locs ls h1 h3 h4)

theorem l_iload_n (fx : zFix X cc own rv nv) {k : Fin 4} {i : Nat} {x : Int32} (hi : (k : Nat) = i) (hl : zget lv i = some (.int x)) (d : zd cc pc (.iload_n k) 1 pc') (k : lZ X P cs ss pc' lv (.int x :: st)) : lZ X P cs ss pc lv (st) := by
  obtain ⟨d, rfl⟩ := d
  obtain ⟨p, l, e, R, s, m, args, below, meth, c, nL, Q, D⟩ := X
  obtain ⟨hx, hb, hml, hown, hts, hlk, hK, hTx, hbs, hR, hnv⟩ := fx
  intro H locs ls h1 h3 h4
  exact lv_iload_n hx hb d hi (zget_at h4 hl) (k H locs ls h1 h3 h4)

theorem l_aload_n (fx : zFix X cc own rv nv) {k : Fin 4} {i : Nat} {x : Nat} (hi : (k : Nat) = i) (hl : zget lv i = some (.ref x)) (d : zd cc pc (.aload_n k) 1 pc') (k : lZ X P cs ss pc' lv (.ref x :: st)) : lZ X P cs ss pc lv (st) := by
  obtain ⟨d, rfl⟩ := d
  obtain ⟨p, l, e, R, s, m, args, below, meth, c, nL, Q, D⟩ := X
  obtain ⟨hx, hb, hml, hown, hts, hlk, hK, hTx, hbs, hR, hnv⟩ := fx
  intro H locs ls h1 h3 h4
  exact lv_aload_n hx hb d hi (zget_at h4 hl) (k H locs ls h1 h3 h4)

theorem l_iadd (fx : zFix X cc own rv nv) {x y : Int32} (d : zd cc pc .iadd 1 pc') (k : lZ X P cs ss pc' lv (.int (x + y) :: st)) : lZ X P cs ss pc lv (.int y :: .int x :: st) := by
  obtain ⟨d, rfl⟩ := d
  obtain ⟨p, l, e, R, s, m, args, below, meth, c, nL, Q, D⟩ := X
  obtain ⟨hx, hb, hml, hown, hts, hlk, hK, hTx, hbs, hR, hnv⟩ := fx
  intro H locs ls h1 h3 h4
  exact lv_iadd hx hb d (k H locs ls h1 h3 h4)

theorem l_isub (fx : zFix X cc own rv nv) {x y : Int32} (d : zd cc pc .isub 1 pc') (k : lZ X P cs ss pc' lv (.int (x - y) :: st)) : lZ X P cs ss pc lv (.int y :: .int x :: st) := by
  obtain ⟨d, rfl⟩ := d
  obtain ⟨p, l, e, R, s, m, args, below, meth, c, nL, Q, D⟩ := X
  obtain ⟨hx, hb, hml, hown, hts, hlk, hK, hTx, hbs, hR, hnv⟩ := fx
  intro H locs ls h1 h3 h4
  exact lv_isub hx hb d (k H locs ls h1 h3 h4)

theorem l_iand (fx : zFix X cc own rv nv) {x y : Int32} (d : zd cc pc .iand 1 pc') (k : lZ X P cs ss pc' lv (.int (x &&& y) :: st)) : lZ X P cs ss pc lv (.int y :: .int x :: st) := by
  obtain ⟨d, rfl⟩ := d
  obtain ⟨p, l, e, R, s, m, args, below, meth, c, nL, Q, D⟩ := X
  obtain ⟨hx, hb, hml, hown, hts, hlk, hK, hTx, hbs, hR, hnv⟩ := fx
  intro H locs ls h1 h3 h4
  exact lv_iand hx hb d (k H locs ls h1 h3 h4)

theorem l_icmp_eq (fx : zFix X cc own rv nv) {x y : Int32} {off : Int} (d : zj cc pc (.if_icmp .eq off) off pc' tgt) (kt : ceq x y = true → lZ X P cs ss tgt lv st) (kf : ceq x y = false → lZ X P cs ss pc' lv st) : lZ X P cs ss pc lv (.int y :: .int x :: st) := by
  obtain ⟨d, rfl, ht⟩ := d
  obtain ⟨p, l, e, R, s, m, args, below, meth, c, nL, Q, D⟩ := X
  obtain ⟨hx, hb, hml, hown, hts, hlk, hK, hTx, hbs, hR, hnv⟩ := fx
  intro H locs ls h1 h3 h4
  exact lv_icmp_eq hx hb d ht (fun q => kt (ceq_t q) H locs ls h1 h3 h4) (fun q => kf (ceq_f q) H locs ls h1 h3 h4)

theorem l_icmp_gt (fx : zFix X cc own rv nv) {x y : Int32} {off : Int} (d : zj cc pc (.if_icmp .gt off) off pc' tgt) (kt : clt y x = true → lZ X P cs ss tgt lv st) (kf : clt y x = false → lZ X P cs ss pc' lv st) : lZ X P cs ss pc lv (.int y :: .int x :: st) := by
  obtain ⟨d, rfl, ht⟩ := d
  obtain ⟨p, l, e, R, s, m, args, below, meth, c, nL, Q, D⟩ := X
  obtain ⟨hx, hb, hml, hown, hts, hlk, hK, hTx, hbs, hR, hnv⟩ := fx
  intro H locs ls h1 h3 h4
  exact lv_icmp_gt hx hb d ht (fun q => kt (clt_t q) H locs ls h1 h3 h4) (fun q => kf (clt_f q) H locs ls h1 h3 h4)

theorem l_goto (fx : zFix X cc own rv nv) {off : Int} (d : zj cc pc (.goto off) off pc' tgt) (k : lZ X P cs ss tgt lv st) : lZ X P cs ss pc lv st := by
  obtain ⟨d, rfl, ht⟩ := d
  obtain ⟨p, l, e, R, s, m, args, below, meth, c, nL, Q, D⟩ := X
  obtain ⟨hx, hb, hml, hown, hts, hlk, hK, hTx, hbs, hR, hnv⟩ := fx
  intro H locs ls h1 h3 h4
  exact lv_goto hx hb d ht (k H locs ls h1 h3 h4)

theorem l_iinc (fx : zFix X cc own rv nv) {i : Nat} {n : Int} {x v : Int32} (hg : zget lv i = some (.int x)) (hv : x + Int32.ofInt n = v) (hc : zone lv = true) (hl : zset lv i (.int v) = lv') (hn : Nat.ble (i + 1) nv = true) (d : zd cc pc (.iinc i n) 3 pc') (k : lZ X P cs ss pc' lv' st) : lZ X P cs ss pc lv st := by
  obtain ⟨d, rfl⟩ := d
  obtain ⟨p, l, e, R, s, m, args, below, meth, c, nL, Q, D⟩ := X
  obtain ⟨hx, hb, hml, hown, hts, hlk, hK, hTx, hbs, hR, hnv⟩ := fx
  intro H locs ls h1 h3 h4
  have hat := zget_at h4 hg
  have h5 : lv_has ls nL ((i, .int x) :: lv) := ⟨h4.1, h4.2.1, fun q hq => by
    rcases List.mem_cons.mp hq with q1 | q1
    · rw [q1]; exact hat
    · exact h4.2.2 q q1⟩
  refine lv_iinc (k := 0) hx hb d h5 rfl hv (by rw [hnv]; exact Nat.le_of_ble_eq_true hn) rfl (fun ls' hl' => k H locs ls' h1 h3 (hl ▸ zset_has hc ?_))
  refine ⟨hl'.1, hl'.2.1, fun q hq => hl'.2.2 q ?_⟩
  rcases List.mem_cons.mp hq with q1 | q1
  · rw [q1]; exact List.mem_cons_self
  · obtain ⟨q2, q3⟩ := List.mem_filter.mp q1
    exact List.mem_cons_of_mem _ (List.mem_filter.mpr ⟨List.mem_cons_of_mem _ q2, q3⟩)

theorem l_table (fx : zFix X cc own rv nv) {x : Int32} {dflt lo hi off : Int} {offs : Array Int} {len : Nat} (d : decode cc pc = .ok (.tableswitch dflt lo hi offs, len)) (hs : zsw dflt lo hi offs x = off ∧ offs.size = (hi - lo + 1).toNat) (ht : (pc : Int) + off = (tgt : Int)) (k : lZ X P cs ss tgt lv st) : lZ X P cs ss pc lv (.int x :: st) := by
  obtain ⟨p, l, e, R, s, m, args, below, meth, c, nL, Q, D⟩ := X
  obtain ⟨hx, hb, hml, hown, hts, hlk, hK, hTx, hbs, hR, hnv⟩ := fx
  intro H locs ls h1 h3 h4
  obtain ⟨hs, hz⟩ := hs
  unfold zsw at hs
  by_cases h : x.toInt < lo ∨ hi < x.toInt
  · rw [if_pos h] at hs
    subst hs
    exact lv_tableOut hx hb d h ht (k H locs ls h1 h3 h4)
  · rw [if_neg h] at hs
    have hl : (x.toInt - lo).toNat < offs.size := by omega
    refine lv_tableIn (off := off) hx hb d (fun q => h (Or.inl q)) (fun q => h (Or.inr q)) ?_ ht (k H locs ls h1 h3 h4)
    rw [← hs]
    simp [Array.getD, hl]


/-- a script's int -/
theorem l_sld (fx : zFix X cc own rv nv) {b L : Nat} {xs : Nat → Int32} {i : Int32} {j : Nat} (hX : va_X b L xs X.2.2.2.2.1 X.2.2.2.2.1.heap) (hbl : b < X.2.2.2.2.1.heap.size) (hbA : ¬ zAf (zDo X) b) (hi : i = nI j) (hj : j < L) (hL : L < 2 ^ 31) (d : zd cc pc .iaload 1 pc') (k : lZ X P cs ss pc' lv (.int (xs j) :: st)) : lZ X P cs ss pc lv (.int i :: .ref b :: st) := by
  obtain ⟨d, rfl⟩ := d
  obtain ⟨p, l, e, R, s, m, args, below, meth, c, nL, Q, D⟩ := X
  obtain ⟨hx, hb, hml, hown, hts, hlk, hK, hTx, hbs, hR, hnv⟩ := fx
  intro H locs ls h1 h3 h4
  subst hi
  have hin : vp_in (nI j) L := vp_in_nI hj hL
  refine va_sld hx hb hX hbl hbA h3 hin d ?_
  have := k H locs ls h1 h3 h4
  rw [nI_clamp (by omega)]
  exact this
theorem l_slen (fx : zFix X cc own rv nv) {b L : Nat} {xs : Nat → Int32} (hX : va_X b L xs X.2.2.2.2.1 X.2.2.2.2.1.heap) (hbl : b < X.2.2.2.2.1.heap.size) (hbA : ¬ zAf (zDo X) b) (d : zd cc pc .arraylength 1 pc') (k : lZ X P cs ss pc' lv (.int (nI L) :: st)) : lZ X P cs ss pc lv (.ref b :: st) := by
  obtain ⟨d, rfl⟩ := d
  obtain ⟨p, l, e, R, s, m, args, below, meth, c, nL, Q, D⟩ := X
  obtain ⟨hx, hb, hml, hown, hts, hlk, hK, hTx, hbs, hR, hnv⟩ := fx
  intro H locs ls h1 h3 h4
  exact va_slen hx hb hX hbl hbA h3 d (k H locs ls h1 h3 h4)
/-- an argument out of the script -/
theorem l_arg (fx : zFix X cc own rv nv) {b L i j : Nat} {xs : Nat → Int32} {n : Int} (hX : va_X b L xs X.2.2.2.2.1 X.2.2.2.2.1.heap) (hbl : b < X.2.2.2.2.1.heap.size) (hbA : ¬ zAf (zDo X) b) (hL : L < 2 ^ 31) (h0 : zget lv 0 = some (.ref b)) (h3 : zget lv 3 = some (.int (nI i))) (hn : Int32.ofInt n = nI j) (hj : i + j < L) (d1 : decode cc pc = .ok (.aload_n 0, 1)) (d2 : decode cc (pc + 1) = .ok (.iload_n 3, 1)) (d3 : decode cc (pc + 2) = .ok (.iconst n, 1)) (d4 : decode cc (pc + 3) = .ok (.iadd, 1)) (d5 : decode cc (pc + 4) = .ok (.iaload, 1)) (hp : pc + 5 = pc') (k : lZ X P cs ss pc' lv (.int (xs (i + j)) :: st)) : lZ X P cs ss pc lv st := by
  refine l_aload_n fx (k := 0) (i := 0) rfl h0 ⟨d1, rfl⟩ ?_
  refine l_iload_n fx (k := 3) (i := 3) rfl h3 ⟨d2, rfl⟩ ?_
  refine l_iconst fx hn ⟨d3, rfl⟩ ?_
  refine l_iadd fx ⟨d4, rfl⟩ ?_
  refine l_sld fx hX hbl hbA (nI_add i j) hj hL ⟨d5, hp⟩ k
theorem zcell.lt {D : zDt} {sh : Nat × Nat} {a : Nat} {H : Heap} (hc : zcell D K μ sh a H) (c : sh.1 ≠ 0) : a < H.size := by
  obtain ⟨t, n⟩ := sh
  match t, hc, c with
  | 0, _, c => exact absurd rfl c
  | 1, hc, _ => exact (Array.getElem?_eq_some_iff.mp hc).1
  | 2, hc, _ => exact (Array.getElem?_eq_some_iff.mp hc).1
  | 3, hc, _ => exact (Array.getElem?_eq_some_iff.mp hc).1
  | 4, hc, _ => exact (Array.getElem?_eq_some_iff.mp hc).1
  | 5, hc, _ => exact (Array.getElem?_eq_some_iff.mp hc).1
  | 6, hc, _ => exact (Array.getElem?_eq_some_iff.mp hc).1
  | t + 7, hc, _ =>
    obtain ⟨r, hrr, cell, g1, g2⟩ := hc
    exact (Array.getElem?_eq_some_iff.mp g1).1
/-- a world whose cells are kept -/
theorem zH.kept {D : zDt} {Sh : zSh} {H H1 : Heap} (h : zH D K Sh μ H) (hq : ∀ a : Nat, a < H.size → zAf D a → H1[a]? = H[a]?) : zH D K Sh μ H1 := by
  refine ⟨fun a => ?_, h.2⟩
  by_cases c : (Sh a).1 = 0
  · have e : Sh a = (0, (Sh a).2) := Prod.ext c rfl
    rw [e]; trivial
  · exact (h.1 a).kept (hq a ((h.1 a).lt c) (h.2.1 a c))
/-- the same numbers, fewer cells -/
def zDa (D : zDt) (A : Nat → Prop) : zDt := (D.1, D.2.1, D.2.2.1, D.2.2.2.1, D.2.2.2.2.1, A)
theorem zTx.narrow {D : zDt} {A : Nat → Prop} {U : State} {H : Heap} (h : zTx D U H) (hA : ∀ q, A q → zAf D q) : zTx (zDa D A) U H := ⟨h.1.narrow hA, h.2.1, h.2.2.1.narrow hA, h.2.2.2.1.narrow hA, h.2.2.2.2⟩
/-- a call out of the law -/
theorem l_call (fx : zFix X cc own rv nv) {A : Nat → Prop} (hA : ∀ q, A q → zAf (zDo X) q) {y : MethodName} {cc' : ByteArray} {maxL : Nat} {ret : Option FieldType} {rm : Room} {As : List Value} {b : Nat} {v : Option Value} {Sh Sh' : zSh} {top top' mc ms i n ci : Nat} (rest : List Value)
    (hM : zMet (zLo X) (zDa (zDo X) A) K y cc' maxL ret rm (.ref b :: As) Sh top μ v Sh' top' μ' mc ms) (hw : zMv y cc' maxL ret n ci) (hl : Cond.methodLink own i y ∈ zTb)
    (hb : (Sh b).1 = ci + 7) (hn : As.length = n) (hr : rm.cells = mc ∧ rm.slots = ms ∧ rm.frames + 1 ≤ rv.frames ∧ 8 + (maxL + 11) + rm.locals ≤ rv.locals ∧ cs + mc ≤ rv.cells ∧ ss + ms ≤ rv.slots) (hst : st = As.reverse ++ .ref b :: rest) (hcat : (rest.map fun v => v.category).sum ≤ 8)
    (d : zd cc pc (.invokevirtual i) 3 pc') (hP : ∀ H, P H → zH (zDa (zDo X) A) K Sh μ H ∧ H.size = top) (hP' : ∀ H H1 : Heap, P H → zH (zDa (zDo X) A) K Sh' μ' H1 → H1.size = top' → H.size ≤ H1.size → (∀ q : Nat, q < H.size → ¬ A q → H1[q]? = H[q]?) → P' H1) (k : lZ X P' (cs + mc) (ss + ms) pc' lv (v.toList ++ rest)) : lZ X P cs ss pc lv st := by
  obtain ⟨d, rfl⟩ := d
  obtain ⟨p, l, e, R, s, m, args, below, meth, c, nL, Q, D⟩ := X
  obtain ⟨hx, hbc, hml, hown, hts, hlk, hK, hTx, hbs, hR, hnv⟩ := fx
  subst hst
  intro H locs ls h1 h3 h4
  obtain ⟨r1, r2, r3, r4, r5, r6⟩ := hr
  have hR : R = rv := hR
  subst hR
  obtain ⟨⟨w1, w2, w3, w4, w5⟩, hi, hsel, hc⟩ := hw
  obtain ⟨q, hq, hqc⟩ : ∃ q, zcl[ci]? = some q ∧ q.1 = y.cls := by
    cases hz : zcl[ci]? with
    | none => rw [hz] at hc; cases hc
    | some q => rw [hz] at hc; exact ⟨q, rfl, Option.some.inj hc⟩
  obtain ⟨g0, gs⟩ := hP H h1
  have hcell := g0.1 b
  rw [show Sh b = (ci + 7, (Sh b).2) from Prod.ext hb rfl] at hcell
  obtain ⟨r, hrr, cell, g1, g2, g3, g4⟩ := hcell
  have hcw : CallW R s args own y.cls i y cc' maxL ret (.code y cc' maxL ret :: zTb) rm mc ms n := by
    refine ⟨callB_of (Ts := zTb) (ws' := zTb) n hts (fun w hw => ?_) rfl r1 r2 (hts _ w2) (hts _ hl) ⟨w3, w4, w5⟩ ⟨r3, r4⟩, hts _ hi, hts _ hsel⟩
    have hw' : w ∈ zTb := by
      rcases List.mem_cons.mp hw with h | h
      · rw [h]; exact w1
      · exact h
    exact ⟨hw', good_of_word (zTb_good hw')⟩
  have hTH : zTx (zDa D A) s H := (hTx.kept h3.2.1).narrow hA
  have hr := va_runV (locs := locs) (l := l) (e := e) (below := below) (meth := meth) (cells := cs) (slots := ss) (As := As) (rest := rest) (g := F0 m pc ls (As.reverse ++ .ref b :: rest)) (H := H) ⟨hx, hbc, hml, hown, hts⟩ hM hcw ⟨zBlind, ⟨cell, g1, by rw [g3]; rfl, by rw [g2, ← hqc]; exact (hK.1 ci q hq).2.1⟩, fun U hU hW => ⟨rfl, ⟨va_K.moved hW.alike hK, by rw [hU]; exact g0, by rw [hU]; exact gs, trivial, by rw [hU]; exact zTx.warm hW hTH⟩⟩⟩ rfl hn h4.1 rfl (lv_room hcat) d ⟨r5, r6⟩
  intro T0 hT X
  obtain ⟨v0, st₀, t, T', L, h0, X', hL, e1, e2, ⟨hv, hw, hz, hk⟩, st⟩ := hr T0 hT X
  have hv' : v0 = v := Outcome.returned.inj hv
  subst hv'
  rw [h0] at hz hk
  have hk' : ∀ q : Nat, q < H.size → ¬ A q → T'.heap[q]? = H[q]? := fun q g1 g2 => by rw [e1]; exact hk q g1 g2
  obtain ⟨t2, a1, b1⟩ := k T'.heap (locs ++ L) ls (hP' H T'.heap h1 (by rw [e1]; exact hw.2.1) (by rw [e1]; exact hw.2.2.1) (by rw [e1]; exact hz) hk') ⟨Nat.le_trans h3.1 (by rw [e1]; exact hz), fun q g1 g2 => by rw [hk' q (Nat.lt_of_lt_of_le g1 h3.1) (fun y => g2 (hA q y))]; exact h3.2.1 q g1 g2, fun q hq => by
      rcases List.mem_append.mp hq with h | h
      · exact h3.2.2 q h
      · exact hA _ (hL q h)⟩ h4 T' rfl X'
  exact ⟨t2, st t2 a1, b1⟩
end zLw
