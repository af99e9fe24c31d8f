/-! CONTRACTS, CALLS, RETURNS -/
def zQc (D : zDt) (K : zKd) (v : Option Value) (Sh' : zSh) (top' : Nat) (μ' : zM) : Array Value → State → Outcome → State → Prop := fun _ st oc t => oc = .returned v ∧ zWd D K Sh' top' μ' t ∧ va_F (zAf D) st t
def zMet (l : Launch) (D : zDt) (K : zKd) (y : MethodName) (cc : ByteArray) (maxL : Nat) (ret : Option FieldType) (rm : Room) (av : List Value) (Sh : zSh) (top : Nat) (μ : zM) (v : Option Value) (Sh' : zSh) (top' : Nat) (μ' : zM) (mc ms : Nat) : Prop :=
  Met l y (Cond.code y cc maxL ret :: zTb) rm (va_Pc av (zWd D K Sh top μ)) (zQc D K v Sh' top' μ') mc ms (zAf D)
def zFin (K : zKd) (X : zCx) (ret : Option FieldType) (v : Option Value) (T' : zTt) (μ' : zM) : Prop := match X with
  | (_, _, _, _, s, _, args, below, meth, _, _, Q, D) => meth.sig.returnType = ret ∧ Q = MQ below (zQc D K v T'.1 T'.2.1 μ') args s T'.2.2.1 T'.2.2.2 (zAf D)
theorem zMet_of {l : Launch} {D : zDt} {K : zKd} {y : MethodName} {cc : ByteArray} {maxL : Nat} {ret : Option FieldType} {rm : Room} {av : List Value} {Sh : zSh} {top : Nat} {μ : zM} {v : Option Value} {Sh' : zSh} {top' : Nat} {μ' : zM} {mc ms : Nat}
    (hy : plainName y.cls = true) (ha : (lg_sl av).length ≤ maxL)
    (walk : ∀ X : zCx, zLo X = l → zDo X = D → zFix X cc y.cls rm maxL → zFin K X ret v (Sh', top', mc, ms) μ' → zZ K X (Sh, top, 0, 0) μ 0 (lv_args 0 av) []) : zMet l D K y cc maxL ret rm av Sh top μ v Sh' top' μ' mc ms := by
  refine Met.ofW (cc := cc) (maxL := maxL) (ret := ret) hy rfl ?_
  intro p e s m args below meth c s₁ B hml hv
  obtain ⟨rfl, hK, hH, hz, hb, hT⟩ := hv
  have hts : ∀ w ∈ zTb, w.before av.toArray s = true := fun w hw => atoms_spec (ws := Cond.code y cc maxL ret :: zTb) B.pre w (List.mem_cons_of_mem _ hw)
  have hown : s.vm.findClass y.cls = some m.cls := findClass_of_methodNamed B.named
  have key := walk (p, l, e, rm, s, m, av.toArray, below, meth, c, maxL, MQ below (zQc D K v Sh' top' μ') av.toArray s mc ms (zAf D), D) rfl rfl ⟨B.exec, B.bytes, hml, hown, hts, B.notSynchronized, hK, hT, trivial, rfl, rfl⟩ ⟨B.returns, rfl⟩
  have hl := lv_entry av (n := maxL) ha
  rw [lg_entry_eq]
  exact key s.heap [] _ hH hz va_S.rf hl
section zCalls
variable {K : zKd} {X : zCx} {cc : ByteArray} {own : String} {T : zTt} {μ μ' : zM} {pc pc' tgt : Nat} {lv lv' : List (Nat × Value)} {st : List Value} {rv : Room} {nv : Nat}
theorem zF_of {D : zDt} {s t : State} {H : Heap} {locs : List Loc} (h : va_S (zAf D) s.heap H locs) (ht : t.heap = H) : va_F (zAf D) s t := h.F ht
theorem zWd_end {D : zDt} {s t : State} {H : Heap} {Sh : zSh} {top : Nat} {locs : List Loc} (hK : zKn D s) (hTx : zTx D s s.heap) (hbs : True) (h1 : zH D K Sh μ H) (h2 : H.size = top) (h3 : va_S (zAf D) s.heap H locs) (ht : t.heap = H) (hw : s.WarmedH t.vm) : zWd D K Sh top μ t := by
  refine ⟨va_K.moved hw.alike hK, by rw [ht]; exact h1, by rw [ht]; exact h2, trivial, ?_⟩
  · exact zTx.warm hw (by rw [ht]; exact hTx.kept h3.2.1)
theorem z_return (fx : zFix X cc own rv nv) (fin : zFin K X none none T μ) (d : zd cc pc .return_ 1 pc') : zZ K X T μ pc lv [] := by
  obtain ⟨d, rfl⟩ := d
  obtain ⟨p, l, e, R, s, m, args, below, meth, c, nL, Q, D⟩ := X
  obtain ⟨hx, hb, hml, hown, hts, hlk, hK, hTx, hbs, hR, hnv⟩ := fx
  obtain ⟨hr, rfl⟩ := fin
  intro H locs ls h1 h2 h3 h4
  exact W.vret hx hb hr (fun t ht hw => ⟨rfl, zWd_end hK hTx hbs h1 h2 h3 ht hw, h3.F ht⟩) h3.2.2 d hlk
theorem z_ireturn (fx : zFix X cc own rv nv) {x : Int32} (fin : zFin K X (some .int) (some (.int x)) T μ) (d : zd cc pc .ireturn 1 pc') : zZ K X T μ pc lv [.int x] := by
  obtain ⟨d, rfl⟩ := d
  obtain ⟨p, l, e, R, s, m, args, below, meth, c, nL, Q, D⟩ := X
  obtain ⟨hx, hb, hml, hown, hts, hlk, hK, hTx, hbs, hR, hnv⟩ := fx
  obtain ⟨hr, rfl⟩ := fin
  intro H locs ls h1 h2 h3 h4
  exact W.iret hx hb hr (fun t ht hw => ⟨rfl, zWd_end hK hTx hbs h1 h2 h3 ht hw, h3.F ht⟩) h3.2.2 d hlk
theorem z_zreturn (fx : zFix X cc own rv nv) {x : Bool} (fin : zFin K X (some .boolean) (some (.int (bI x))) T μ) (d : zd cc pc .ireturn 1 pc') : zZ K X T μ pc lv [.int (bI x)] := by
  obtain ⟨d, rfl⟩ := d
  obtain ⟨p, l, e, R, s, m, args, below, meth, c, nL, Q, D⟩ := X
  obtain ⟨hx, hb, hml, hown, hts, hlk, hK, hTx, hbs, hR, hnv⟩ := fx
  obtain ⟨hr, rfl⟩ := fin
  intro H locs ls h1 h2 h3 h4
  exact W.zret hx hb hr (bI_nar x) (fun t ht hw => ⟨rfl, zWd_end hK hTx hbs h1 h2 h3 ht hw, h3.F ht⟩) h3.2.2 d hlk
theorem z_areturn (fx : zFix X cc own rv nv) {a : Nat} {C : String} (fin : zFin K X (some (.object C)) (some (.ref a)) T μ) (d : zd cc pc .areturn 1 pc') : zZ K X T μ pc lv [.ref a] := by
  obtain ⟨d, rfl⟩ := d
  obtain ⟨p, l, e, R, s, m, args, below, meth, c, nL, Q, D⟩ := X
  obtain ⟨hx, hb, hml, hown, hts, hlk, hK, hTx, hbs, hR, hnv⟩ := fx
  obtain ⟨hr, rfl⟩ := fin
  intro H locs ls h1 h2 h3 h4
  exact W.aret hx hb hr (Or.inl ⟨_, rfl⟩) (Or.inr ⟨_, rfl⟩) (fun t ht hw => ⟨rfl, zWd_end hK hTx hbs h1 h2 h3 ht hw, h3.F ht⟩) h3.2.2 d hlk
/-- behind a call -/
theorem z_back {p : Program} {l : Launch} {e : Env} {R : Room} {s : State} {m : MethodId} {args : Array Value} {below : List Frame} {meth : Method} {c : Code} {nL : Nat} {Q : State → Prop} {D : zDt} {H : Heap} {locs : List Loc} {ls : Array Slot} {mc ms : Nat} {v : Option Value} {Sh' : zSh} {top' : Nat} {rest st0 : List Value} {a : Array Value}
    (hr : va_Run p l e R s m args below meth c H locs T.2.2.1 T.2.2.2 mc ms (F0 m pc ls st0) rest (zQc D K v Sh' top' μ' a) (zAf D)) (h3 : va_S (zAf D) s.heap H locs) (h4 : lv_has ls nL lv)
    (k : zZ K (p, l, e, R, s, m, args, below, meth, c, nL, Q, D) (Sh', top', T.2.2.1 + mc, T.2.2.2 + ms) μ' (pc + 3) lv (v.toList ++ rest)) : W p l e R s m args below meth c H locs T.2.2.1 T.2.2.2 Q (F0 m pc ls st0) := by
  intro T0 hT X
  obtain ⟨v0, st₀, t, T', L, h0, X', hL, e1, e2, ⟨hv, hw, hz, hk⟩, st⟩ := hr T0 hT X
  have hv' : v0 = v := Outcome.returned.inj hv
  subst hv'
  rw [h0] at hz hk
  obtain ⟨t2, a1, b1⟩ := k T'.heap (locs ++ L) ls (by rw [e1]; exact hw.2.1) (by rw [e1]; exact hw.2.2.1) ⟨Nat.le_trans h3.1 (by rw [e1]; exact hz), fun q g1 g2 => by rw [e1, hk q (Nat.lt_of_lt_of_le g1 h3.1) g2]; exact h3.2.1 q g1 g2, fun q hq => by
      rcases List.mem_append.mp hq with h | h
      · exact h3.2.2 q h
      · exact hL q h⟩ h4 T' rfl X'
  exact ⟨t2, st t2 a1, b1⟩
theorem zBlind {D : zDt} {av : List Value} {Sh : zSh} {top : Nat} : FrameBlind (va_Pc av (zWd D K Sh top μ)) := by
  intro a U g mk h
  obtain ⟨h0, h1, h2, h3, h4, h5⟩ := h
  exact ⟨h0, va_K.moved (u := U) (U := U.calling g mk a) (Vm.Alike.refl U.vm) h1, h2, h3, h4, zTx.same rfl h5⟩
/-- a method that can be called: its words -/
def zMw (y : MethodName) (cc : ByteArray) (maxL : Nat) (ret : Option FieldType) (n : Nat) : Prop := Cond.code y cc maxL ret ∈ zTb ∧ Cond.initialized y.cls ∈ zTb ∧ y.cls ≠ "java/lang/invoke/MethodHandle" ∧ y.cls ≠ "java/lang/invoke/VarHandle" ∧ (parseMethodDescriptor y.desc).map (fun d => d.parameters.length) = some n
def zRoom (rm rv : Room) (maxL mc ms : Nat) (T : zTt) : Prop := rm.cells = mc ∧ rm.slots = ms ∧ rm.frames + 1 ≤ rv.frames ∧ 8 + (maxL + 11) + rm.locals ≤ rv.locals ∧ T.2.2.1 + mc ≤ rv.cells ∧ T.2.2.2 + ms ≤ rv.slots
theorem z_callV (fx : zFix X cc own rv nv) {y : MethodName} {cc' : ByteArray} {maxL : Nat} {ret : Option FieldType} {rm : Room} {As : List Value} {b : Nat} {v : Option Value} {Sh' : zSh} {top' mc ms i n ci : Nat} (rest : List Value)
    (hM : zMet (zLo X) (zDo X) K y cc' maxL ret rm (.ref b :: As) T.1 T.2.1 μ v Sh' top' μ' mc ms) (hw : zMw y cc' maxL ret n) (hi : Cond.instanceMethod y ∈ zTb) (hsel : Cond.selects y.cls y y ∈ zTb) (hl : Cond.methodLink own i y ∈ zTb)
    (hc : (zcl[ci]?).map (fun q => q.1) = some y.cls) (hb : (T.1 b).1 = ci + 7) (hn : As.length = n) (hr : zRoom rm rv maxL mc ms T) (hst : st = As.reverse ++ .ref b :: rest) (hcat : (rest.map fun v => v.category).sum ≤ 8)
    (d : zd cc pc (.invokevirtual i) 3 pc') (k : zZ K X (Sh', top', T.2.2.1 + mc, T.2.2.2 + ms) μ' pc' lv (v.toList ++ rest)) : zZ K X T μ pc lv st := by
  obtain ⟨d, rfl⟩ := d
  obtain ⟨p, l, e, R, s, m, args, below, meth, c, nL, Q, D⟩ := X
  obtain ⟨hx, hbc, hml, hown, hts, hlk, hK, hTx, hbs, hR, hnv⟩ := fx
  subst hst
  intro H locs ls h1 h2 h3 h4
  obtain ⟨r1, r2, r3, r4, r5, r6⟩ := hr
  have hR : R = rv := hR
  subst hR
  obtain ⟨w1, w2, w3, w4, w5⟩ := hw
  obtain ⟨q, hq, hqc⟩ : ∃ q, zcl[ci]? = some q ∧ q.1 = y.cls := by
    cases hz : zcl[ci]? with
    | none => rw [hz] at hc; cases hc
    | some q => rw [hz] at hc; exact ⟨q, rfl, Option.some.inj hc⟩
  have hcell := h1.1 b
  rw [show T.1 b = (ci + 7, (T.1 b).2) from Prod.ext hb rfl] at hcell
  obtain ⟨r, hrr, cell, g1, g2, g3, g4⟩ := hcell
  have hcw : CallW R s args own y.cls i y cc' maxL ret (.code y cc' maxL ret :: zTb) rm mc ms n := by
    refine ⟨callB_of (Ts := zTb) (ws' := zTb) n hts (fun w hw => ?_) rfl r1 r2 (hts _ w2) (hts _ hl) ⟨w3, w4, w5⟩ ⟨r3, r4⟩, hts _ hi, hts _ hsel⟩
    have hw' : w ∈ zTb := by
      rcases List.mem_cons.mp hw with h | h
      · rw [h]; exact w1
      · exact h
    exact ⟨hw', good_of_word (zTb_good hw')⟩
  refine z_back (T := T) (va_runV (As := As) (rest := rest) ⟨hx, hbc, hml, hown, hts⟩ hM hcw ⟨zBlind, ⟨cell, g1, by rw [g3]; rfl, by rw [g2, ← hqc]; exact (hK.1 ci q hq).2.1⟩, fun U hU hW => ⟨rfl, zWd_end hK hTx hbs h1 h2 h3 hU hW⟩⟩ rfl hn h4.1 rfl (lv_room hcat) d ⟨r5, r6⟩) h3 h4 k
theorem z_callS (fx : zFix X cc own rv nv) {y : MethodName} {cc' : ByteArray} {maxL : Nat} {ret : Option FieldType} {rm : Room} {As : List Value} {v : Option Value} {Sh' : zSh} {top' mc ms i n : Nat} (rest : List Value)
    (hM : zMet (zLo X) (zDo X) K y cc' maxL ret rm As T.1 T.2.1 μ v Sh' top' μ' mc ms) (hw : zMw y cc' maxL ret n) (hi : Cond.static y ∈ zTb) (hl : Cond.methodLink own i y ∈ zTb)
    (hn : As.length = n) (hr : zRoom rm rv maxL mc ms T) (hst : st = As.reverse ++ rest) (hcat : (rest.map fun v => v.category).sum ≤ 8)
    (d : zd cc pc (.invokestatic i) 3 pc') (k : zZ K X (Sh', top', T.2.2.1 + mc, T.2.2.2 + ms) μ' pc' lv (v.toList ++ rest)) : zZ K X T μ pc lv st := by
  obtain ⟨d, rfl⟩ := d
  obtain ⟨p, l, e, R, s, m, args, below, meth, c, nL, Q, D⟩ := X
  obtain ⟨hx, hbc, hml, hown, hts, hlk, hK, hTx, hbs, hR, hnv⟩ := fx
  subst hst
  intro H locs ls h1 h2 h3 h4
  obtain ⟨r1, r2, r3, r4, r5, r6⟩ := hr
  have hR : R = rv := hR
  subst hR
  obtain ⟨w1, w2, w3, w4, w5⟩ := hw
  have hcw : CallB R s args own i y cc' maxL ret (.code y cc' maxL ret :: zTb) rm mc ms n := by
    refine callB_of (Ts := zTb) (ws' := zTb) n hts (fun w hw => ?_) rfl r1 r2 (hts _ w2) (hts _ hl) ⟨w3, w4, w5⟩ ⟨r3, r4⟩
    have hw' : w ∈ zTb := by
      rcases List.mem_cons.mp hw with h | h
      · rw [h]; exact w1
      · exact h
    exact ⟨hw', good_of_word (zTb_good hw')⟩
  refine z_back (T := T) (va_runS (As := As) (rest := rest) ⟨hx, hbc, hml, hown, hts⟩ hM ⟨hcw, hts _ hi⟩ ⟨zBlind, fun U hU hW => ⟨rfl, zWd_end hK hTx hbs h1 h2 h3 hU hW⟩⟩ rfl hn h4.1 rfl (lv_room hcat) d ⟨r5, r6⟩) h3 h4 k
def iMin (x y : Int32) : Int32 := if y < x then y else x
def iMax (x y : Int32) : Int32 := if x < y then y else x
theorem z_mmin (fx : zFix X cc own rv nv) {i : Nat} {x y : Int32} (hl : Cond.methodLink own i Lib.Math.min.name ∈ zTb) (h0 : Cond.static Lib.Math.min.name ∈ zTb ∧ Cond.initialized "java/lang/Math" ∈ zTb ∧ Cond.code Lib.Math.min.name Lib.Math.min.code 2 (some .int) ∈ zTb) (hcat : (st.map fun v => v.category).sum ≤ 8) (hr : 1 ≤ rv.frames ∧ 21 ≤ rv.locals ∧ T.2.2.1 ≤ rv.cells ∧ T.2.2.2 ≤ rv.slots)
    (d : zd cc pc (.invokestatic i) 3 pc') (k : zZ K X T μ pc' lv (.int (iMin x y) :: st)) : zZ K X T μ pc lv (.int y :: .int x :: st) := by
  obtain ⟨d, rfl⟩ := d
  obtain ⟨p, l, e, R, s, m, args, below, meth, c, nL, Q, D⟩ := X
  obtain ⟨hx, hbc, hml, hown, hts, hlk, hK, hTx, hbs, hR, hnv⟩ := fx
  have hR : R = rv := hR
  subst hR
  intro H locs ls h1 h2 h3 h4
  exact va_mmin hx hbc (hml.trans h4.1.symm) hown (hts _ hl) (hts _ h0.1) (hts _ h0.2.1) (hts _ h0.2.2) hr.1 (by have := hr.2.1; omega) hr.2.2.1 hr.2.2.2 d (k H locs ls h1 h2 h3 h4)
theorem z_mmax (fx : zFix X cc own rv nv) {i : Nat} {x y : Int32} (hl : Cond.methodLink own i Lib.Math.max.name ∈ zTb) (h0 : Cond.static Lib.Math.max.name ∈ zTb ∧ Cond.initialized "java/lang/Math" ∈ zTb ∧ Cond.code Lib.Math.max.name Lib.Math.max.code 2 (some .int) ∈ zTb) (hcat : (st.map fun v => v.category).sum ≤ 8) (hr : 1 ≤ rv.frames ∧ 21 ≤ rv.locals ∧ T.2.2.1 ≤ rv.cells ∧ T.2.2.2 ≤ rv.slots)
    (d : zd cc pc (.invokestatic i) 3 pc') (k : zZ K X T μ pc' lv (.int (iMax x y) :: st)) : zZ K X T μ pc lv (.int y :: .int x :: st) := by
  obtain ⟨d, rfl⟩ := d
  obtain ⟨p, l, e, R, s, m, args, below, meth, c, nL, Q, D⟩ := X
  obtain ⟨hx, hbc, hml, hown, hts, hlk, hK, hTx, hbs, hR, hnv⟩ := fx
  have hR : R = rv := hR
  subst hR
  intro H locs ls h1 h2 h3 h4
  exact va_mmax hx hbc (hml.trans h4.1.symm) hown (hts _ hl) (hts _ h0.1) (hts _ h0.2.1) (hts _ h0.2.2) hr.1 (by have := hr.2.1; omega) hr.2.2.1 hr.2.2.2 d (k H locs ls h1 h2 h3 h4)
end zCalls
