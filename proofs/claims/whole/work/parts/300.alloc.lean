/-! MAKING CELLS -/
/-- all that stands at address a is as new -/
def zz (μ : zM) (a : Nat) : zM := (fun k q => if q = a then 0 else μ.1 k q, fun q j => if q = a then 0 else μ.2.1 q j, fun k q => if q = a then false else μ.2.2.1 k q, fun q j => if q = a then false else μ.2.2.2.1 q j, fun k q => if q = a then none else μ.2.2.2.2.1 k q, fun q j => if q = a then none else μ.2.2.2.2.2 q j)
def zSu (Sh : zSh) (a t n : Nat) : zSh := fun q => if q = a then (t, n) else Sh q
/-- a cell more, of tag t, length n, s slots -/
def zTn (T : zTt) (t n s : Nat) : zTt := (zSu T.1 T.2.1 t n, T.2.1 + 1, T.2.2.1 + 1, T.2.2.2 + s)
def zKok (K : zKd) : Prop := (∀ ci k, (K.1 ci k).1 = 4 → (K.1 ci k).2 ≠ 0) ∧ ∀ t, (K.2 t).1 = 0 → (K.2 t).2.1 ≠ 0
theorem zlt {D : zDt} {K : zKd} {Sh : zSh} {μ : zM} {H : Heap} {b : Nat} (h : zH D K Sh μ H) (hb : (Sh b).1 ≠ 0) : b < H.size := by
  have hc := h.1 b
  revert hc hb
  generalize Sh b = q
  obtain ⟨t, n⟩ := q
  intro hb hc
  match t, hb, hc with
  | 0, hb, _ => exact absurd rfl hb
  | 1, _, hc => exact (Array.getElem?_eq_some_iff.mp hc).1
  | 2, _, hc => exact (Array.getElem?_eq_some_iff.mp hc).1
  | 3, _, hc => exact (Array.getElem?_eq_some_iff.mp hc).1
  | 4, _, hc => exact (Array.getElem?_eq_some_iff.mp hc).1
  | 5, _, hc => exact (Array.getElem?_eq_some_iff.mp hc).1
  | 6, _, hc => exact (Array.getElem?_eq_some_iff.mp hc).1
  | t + 7, _, hc =>
    obtain ⟨r, -, cell, h1, -⟩ := hc
    exact (Array.getElem?_eq_some_iff.mp h1).1
/-- the world with a new cell -/
theorem zH_new {D : zDt} {K : zKd} {Sh : zSh} {μ : zM} {H H1 : Heap} {t n : Nat} (hK : zKok K) (h : zH D K Sh μ H) (hA : zAf D H.size) (ho : ∀ q, q < H.size → H1[q]? = H[q]?) (hc : zcell D K (zz μ H.size) (t, n) H.size H1) : zH D K (zSu Sh H.size t n) (zz μ H.size) H1 := by
  have keep : ∀ b, (Sh b).1 ≠ 0 → zSu Sh H.size t n b = Sh b := fun b hb => by
    have := zlt h hb
    simp [zSu, Nat.ne_of_lt this]
  refine ⟨fun b => ?_, fun b hb => ?_, fun a' ci k w h1 h2 h3 => ?_, fun a' u m j w h0 h1 h2 h3 => ?_⟩
  · by_cases hb : b = H.size
    · subst hb
      simpa [zSu] using hc
    · have e : zSu Sh H.size t n b = Sh b := by simp [zSu, hb]
      rw [e]
      have hs : zcell D K (zz μ H.size) (Sh b) b H := (h.1 b).same (fun k => by simp [gF, zz, hb]) (fun j => by simp [gA, zz, hb]) (fun k => by simp [gB, zz, hb]) (fun j => by simp [gZ, zz, hb]) (fun k => by simp [gR, zz, hb]) (fun j => by simp [gX, zz, hb])
      by_cases hz : (Sh b).1 = 0
      · have e2 : Sh b = (0, (Sh b).2) := Prod.ext hz rfl
        rw [e2]; trivial
      · exact hs.kept (ho b (zlt h hz))
  · by_cases hb2 : b = H.size
    · rw [hb2]; exact hA
    · have e : zSu Sh H.size t n b = Sh b := by simp [zSu, hb2]
      rw [e] at hb
      exact h.2.1 b hb
  · by_cases ha : a' = H.size
    · subst ha
      simp [gR, zz] at h3
    · have e : zSu Sh H.size t n a' = Sh a' := by simp [zSu, ha]
      rw [e] at h1
      have h4 : gR μ (100 * ci + k) a' = some w := by simpa [gR, zz, ha] using h3
      have h5 := h.2.2.1 a' ci k w h1 h2 h4
      rw [keep w (by rw [h5]; exact hK.1 ci k h2)]
      exact h5
  · by_cases ha : a' = H.size
    · subst ha
      simp [gX, zz] at h3
    · have e : zSu Sh H.size t n a' = Sh a' := by simp [zSu, ha]
      rw [e] at h1
      have h4 : gX μ a' j = some w := by simpa [gX, zz, ha] using h3
      have h5 := h.2.2.2 a' u m j w h0 h1 h2 h4
      rw [keep w (by rw [h5]; exact hK.2 u h2)]
      exact h5
def zkc (K : zKd) (ci k : Nat) : Bool := match ztyp ci k with
  | .int => Nat.beq (K.1 ci k).1 0
  | .boolean => Nat.beq (K.1 ci k).1 1
  | .object _ => Nat.beq (K.1 ci k).1 4
  | .array _ => Nat.beq (K.1 ci k).1 4
  | _ => false
theorem zkc_ok {K : zKd} {ci k a : Nat} {μ : zM} (h : zkc K ci k = true) : defaultValue (ztyp ci k) = zv K (zz μ a) ci a k := by
  unfold zkc at h
  unfold zv
  split at h
  · rename_i e; rw [Nat.eq_of_beq_eq_true h, e]; simp [defaultValue, gF, zz]
  · rename_i e; rw [Nat.eq_of_beq_eq_true h, e]; simp [defaultValue, gB, zz, bI]
  · rename_i e; rw [Nat.eq_of_beq_eq_true h, e]; simp [defaultValue, gR, zz, va_rf]
  · rename_i e; rw [Nat.eq_of_beq_eq_true h, e]; simp [defaultValue, gR, zz, va_rf]
  · cases h
section zAlloc
variable {K : zKd} {X : zCx} {cc : ByteArray} {own : String} {T : zTt} {μ μ' : zM} {pc pc' tgt : Nat} {lv lv' : List (Nat × Value)} {st : List Value} {rv : Room} {nv : Nat}
theorem z_widen {Sh : zSh} {top c s c' s' : Nat} (h1 : c ≤ c') (h2 : s ≤ s') (k : zZ K X (Sh, top, c', s') μ pc lv st) : zZ K X (Sh, top, c, s) μ pc lv st := by
  obtain ⟨p, l, e, R, s0, m, args, below, meth, c0, nL, Q, D⟩ := X
  intro H locs ls g1 g2 g3 g4
  exact W.widen h1 h2 (k H locs ls g1 g2 g3 g4)
theorem zS_push {D : zDt} {H0 H H1 : Heap} {locs : List Loc} (h : va_S (zAf D) H0 H locs) (z : H1.size = H.size + 1) (o : ∀ q, q < H.size → H1[q]? = H[q]?) : va_S (zAf D) H0 H1 locs := ⟨by rw [z]; exact Nat.le_succ_of_le h.1, fun q g1 g2 => (o q (Nat.lt_of_lt_of_le g1 h.1)).trans (h.2.1 q g1 g2), h.2.2⟩
theorem z_newO (fx : zFix X cc own rv nv) (hK0 : zKok K) {i : Nat} (ci : Nat) {C : vw_C} (hc : zcl[ci]? = some C) (hw : Cond.classLink own i C.1 ∈ zTb ∧ Cond.instantiable C.1 C.2.2 ∈ zTb ∧ Cond.initialized C.1 ∈ zTb) (hk : ∀ k, k < C.2.2 → zkc K ci k = true) (hA : zAf (zDo X) T.2.1) (hr : T.2.2.1 + 1 ≤ rv.cells ∧ T.2.2.2 + C.2.2 ≤ rv.slots)
    (d : zd cc pc (.new i) 3 pc') (k : zZ K X (zTn T (ci + 7) 0 C.2.2) (zz μ T.2.1) pc' lv (.ref T.2.1 :: st)) : zZ K X T μ pc lv st := by
  obtain ⟨d, rfl⟩ := d
  obtain ⟨p, l, e, R, s, m, args, below, meth, c, nL, Q, D⟩ := X
  obtain ⟨hx, hb, hml, hown, hts, hlk, hK, hTx, hbs, hR, hnv⟩ := fx
  have hR : R = rv := hR
  subst hR
  intro H locs ls h1 h2 h3 h4
  have hKn := hK.1 ci _ hc
  refine W.newcK hx hb hown (hts _ hw.1) (hts _ hw.2.1) (hts _ hw.2.2) rfl d hr.1 hr.2 hKn.2.1 h2 fun H1 kC hkC e1 z1 o1 => ?_
  have hA : zAf D H.size := by rw [h2]; exact hA
  have o2 : ∀ q, q < H.size → H1[q]? = H[q]? := fun q hq => o1 q (by rw [← h2]; exact hq)
  have hcell : zcell D K (zz μ H.size) (ci + 7, 0) H.size H1 := by
    exact ⟨C, hc, t_OB.to (u_born (ztyp ci) hts (zws0 ci C hc) hKn hkC (by rw [h2]; exact e1) (zty0 ci C hc)) (fun k hkN => zkc_ok (hk k hkN))⟩
  have hH := zH_new hK0 h1 hA o2 hcell
  rw [h2] at hH
  exact k H1 locs ls hH z1 (zS_push h3 (by rw [z1, h2]) o2) h4
theorem z_newI (fx : zFix X cc own rv nv) (hK0 : zKok K) {n : Int32} {N : Nat} (hn : rI 100000000 n = some N) (hw : Cond.arrayClass .int ∈ zTb) (hA : zAf (zDo X) T.2.1) (hr : T.2.2.1 + 1 ≤ rv.cells ∧ T.2.2.2 + N ≤ rv.slots)
    (d : zd cc pc (.newarray .int) 2 pc') (k : zZ K X (zTn T 1 N N) (zz μ T.2.1) pc' lv (.ref T.2.1 :: st)) : zZ K X T μ pc lv (.int n :: st) := by
  obtain ⟨d, rfl⟩ := d
  obtain ⟨p, l, e, R, s, m, args, below, meth, c, nL, Q, D⟩ := X
  obtain ⟨hx, hb, hml, hown, hts, hlk, hK, hTx, hbs, hR, hnv⟩ := fx
  have hR : R = rv := hR
  subst hR
  obtain ⟨hin, hN⟩ := rI_in hn
  intro H locs ls h1 h2 h3 h4
  refine va_newaK (atype := .int) hx hb (hts _ hw) rfl d rfl (fun q => hin (Or.inl q)) hN (by have := rI_lt hn; show N * 4 ≤ _; omega) hr.1 hr.2 h2 fun H1 cA e1 z1 o1 hAr hNm => ?_
  have hA : zAf D H.size := by rw [h2]; exact hA
  have o2 : ∀ q, q < H.size → H1[q]? = H[q]? := fun q hq => o1 q (by rw [← h2]; exact hq)
  have hcA : cA = D.2.2.1 0 := Option.some.inj (hNm.symm.trans (hK.2 0 _ rfl).2)
  subst hcA
  have hcell : zcell D K (zz μ H.size) (1, N) H.size H1 := by
    show H1[H.size]? = some (arrV _ N _)
    rw [h2, e1]
    congr 2
    funext j
    simp [defaultValue, gA, zz, newarray.typeOf]
  have hH := zH_new hK0 h1 hA o2 hcell
  rw [h2] at hH
  exact k H1 locs ls hH z1 (zS_push h3 (by rw [z1, h2]) o2) h4
theorem z_newZ (fx : zFix X cc own rv nv) (hK0 : zKok K) {n : Int32} {N : Nat} (hn : rI 100000000 n = some N) (hw : Cond.arrayClass .boolean ∈ zTb) (hA : zAf (zDo X) T.2.1) (hr : T.2.2.1 + 1 ≤ rv.cells ∧ T.2.2.2 + N ≤ rv.slots)
    (d : zd cc pc (.newarray .boolean) 2 pc') (k : zZ K X (zTn T 2 N N) (zz μ T.2.1) pc' lv (.ref T.2.1 :: st)) : zZ K X T μ pc lv (.int n :: st) := by
  obtain ⟨d, rfl⟩ := d
  obtain ⟨p, l, e, R, s, m, args, below, meth, c, nL, Q, D⟩ := X
  obtain ⟨hx, hb, hml, hown, hts, hlk, hK, hTx, hbs, hR, hnv⟩ := fx
  have hR : R = rv := hR
  subst hR
  obtain ⟨hin, hN⟩ := rI_in hn
  intro H locs ls h1 h2 h3 h4
  refine va_newaK (atype := .boolean) hx hb (hts _ hw) rfl d rfl (fun q => hin (Or.inl q)) hN (by have := rI_lt hn; show N * 1 ≤ _; omega) hr.1 hr.2 h2 fun H1 cA e1 z1 o1 hAr hNm => ?_
  have hA : zAf D H.size := by rw [h2]; exact hA
  have o2 : ∀ q, q < H.size → H1[q]? = H[q]? := fun q hq => o1 q (by rw [← h2]; exact hq)
  have hcA : cA = D.2.2.1 1 := Option.some.inj (hNm.symm.trans (hK.2 1 _ rfl).2)
  subst hcA
  have hcell : zcell D K (zz μ H.size) (2, N) H.size H1 := by
    show H1[H.size]? = some (arrV _ N _)
    rw [h2, e1]
    congr 2
    funext j
    simp [defaultValue, gZ, zz, newarray.typeOf, bI]
  have hH := zH_new hK0 h1 hA o2 hcell
  rw [h2] at hH
  exact k H1 locs ls hH z1 (zS_push h3 (by rw [z1, h2]) o2) h4
/-- arrays of references: t = 0 .. 3 -/
def zcn (t : Nat) : String := match t with
  | 0 => RX0
  | 1 => RX4
  | 2 => RX3
  | _ => RX8
theorem z_newQ (fx : zFix X cc own rv nv) (hK0 : zKok K) (t : Nat) (ht : t < 4) (hk : (K.2 t).1 = 0) {i : Nat} {n : Int32} {N : Nat} (hn : rI 100000000 n = some N) (hw : Cond.classLink own i (zcn t) ∈ zTb) (hA : zAf (zDo X) T.2.1) (hr : T.2.2.1 + 1 ≤ rv.cells ∧ T.2.2.2 + N ≤ rv.slots)
    (d : zd cc pc (.anewarray i) 3 pc') (k : zZ K X (zTn T (t + 3) N N) (zz μ T.2.1) pc' lv (.ref T.2.1 :: st)) : zZ K X T μ pc lv (.int n :: st) := by
  obtain ⟨d, rfl⟩ := d
  obtain ⟨p, l, e, R, s, m, args, below, meth, c, nL, Q, D⟩ := X
  obtain ⟨hx, hb, hml, hown, hts, hlk, hK, hTx, hbs, hR, hnv⟩ := fx
  have hR : R = rv := hR
  subst hR
  obtain ⟨hin, hN⟩ := rI_in hn
  intro H locs ls h1 h2 h3 h4
  have hAO : va_AO (zcn t) s := by
    match t, ht with
    | 0, _ => exact hTx.2.2.2.2.2 _ (by simp [zAO, zcn])
    | 1, _ => exact hTx.2.2.2.2.2 _ (by simp [zAO, zcn])
    | 2, _ => exact hTx.2.2.2.2.2 _ (by simp [zAO, zcn])
    | 3, _ => exact hTx.2.2.2.2.2 _ (by simp [zAO, zcn])
  subst hN
  refine W.anew hx hb hown (hts _ hw) (va_AO.use hAO) rfl d rfl (fun q => hin (Or.inl q)) (by have := rI_lt hn; omega) hr.1 hr.2 fun cA kA comp f1 f2 f3 f4 => ?_
  have hA : zAf D H.size := by rw [h2]; exact hA
  generalize hH1 : H.push ({ cls := cA, slots := Array.replicate n.toNatClampNeg .null, vm := .none } : Cell) = H1
  have z1 : H1.size = H.size + 1 := by rw [← hH1, Array.size_push]
  have e1 : H1[H.size]? = some (arrV cA n.toNatClampNeg (fun _ => .null)) := by rw [← hH1, Array.getElem?_push_size, ← arrV_new]
  have o2 : ∀ q, q < H.size → H1[q]? = H[q]? := fun q hq => by rw [← hH1, Array.getElem?_push, if_neg (Nat.ne_of_lt hq)]
  have hcell : zcell D K (zz μ H.size) (t + 3, n.toNatClampNeg) H.size H1 := by
    have hx0 : zx K (zz μ H.size) t H.size = fun _ => .null := by
      funext j
      simp [zx, hk, gX, zz, va_rf]
    match t, ht, f1, hx0 with
    | 0, _, f1, hx0 =>
      have hcA : cA = D.2.2.1 2 := Option.some.inj (f1.symm.trans (hK.2 2 _ rfl).2.choose_spec.choose_spec.2.2.2)
      subst hcA
      show H1[H.size]? = some (arrV _ _ _)
      rw [hx0]; exact e1
    | 1, _, f1, hx0 =>
      have hcA : cA = D.2.2.1 3 := Option.some.inj (f1.symm.trans (hK.2 3 _ rfl).2.choose_spec.choose_spec.2.2.2)
      subst hcA
      show H1[H.size]? = some (arrV _ _ _)
      rw [hx0]; exact e1
    | 2, _, f1, hx0 =>
      have hcA : cA = D.2.2.1 4 := Option.some.inj (f1.symm.trans (hK.2 4 _ rfl).2.choose_spec.choose_spec.2.2.2)
      subst hcA
      show H1[H.size]? = some (arrV _ _ _)
      rw [hx0]; exact e1
    | 3, _, f1, hx0 =>
      have hcA : cA = D.2.2.1 5 := Option.some.inj (f1.symm.trans (hK.2 5 _ rfl).2.choose_spec.choose_spec.2.2.2)
      subst hcA
      show H1[H.size]? = some (arrV _ _ _)
      rw [hx0]; exact e1
  have hH := zH_new hK0 h1 hA o2 hcell
  rw [h2] at hH z1
  have e4 : (.ref H.size : Value) = .ref T.2.1 := by rw [h2]
  rw [e4]
  exact k H1 locs ls hH z1 (zS_push h3 (by rw [z1, h2]) o2) h4
/-- Object's own constructor -/
theorem z_obj (fx : zFix X cc own rv nv) {i a : Nat} (hw : Cond.methodLink own i Lib.objectInit ∈ zTb ∧ Cond.instanceMethod Lib.objectInit ∈ zTb ∧ Cond.code Lib.objectInit ⟨#[0xb1]⟩ 1 none ∈ zTb) (hcat : (st.map fun v => v.category).sum ≤ 8) (hr : 1 ≤ rv.frames ∧ 20 ≤ rv.locals) (d : zd cc pc (.invokespecial i) 3 pc') (k : zZ K X T μ pc' lv st) : zZ K X T μ pc lv (.ref a :: st) := by
  obtain ⟨d, rfl⟩ := d
  obtain ⟨p, l, e, R, s, m, args, below, meth, c, nL, Q, D⟩ := X
  obtain ⟨hx, hb, hml, hown, hts, hlk, hK, hTx, hbs, hR, hnv⟩ := fx
  have hR : R = rv := hR
  subst hR
  intro H locs ls h1 h2 h3 h4
  exact W.objInit hx hb hown (hts _ hw.1) (hts _ hw.2.1) (hts _ hw.2.2) rfl (h4.1.trans hml.symm) rfl d hr.1 (by show 2 * 0 + _ + 12 ≤ _; have := hr.2; omega) (k H locs ls h1 h2 h3 h4)
end zAlloc
theorem zMet_ofI {l : Launch} {D : zDt} {K : zKd} {y : MethodName} {cc : ByteArray} {maxL : Nat} {ret : Option FieldType} {rm : Room} {av : List Value} {Sh : zSh} {top : Nat} {μ : zM} {v : Option Value} {Sh' : zSh} {top' : Nat} {μ' : zM} {mc ms : Nat}
    (hy : plainName y.cls = true) (ha : (lg_sl av).length ≤ maxL)
    (walk : ∀ X : zCx, zLo X = l → zDo X = D → zFix X cc y.cls rm maxL → (X.2.2.2.2.2.2.2.2.1).name = y.name → zFin K X ret v (Sh', top', mc, ms) μ' → zZ K X (Sh, top, 0, 0) μ 0 (lv_args 0 av) []) : zMet l D K y cc maxL ret rm av Sh top μ v Sh' top' μ' mc ms := by
  refine Met.ofW (cc := cc) (maxL := maxL) (ret := ret) hy rfl ?_
  intro p e s m args below meth c s₁ B hml hv
  obtain ⟨rfl, hK, hH, hz, hb, hT⟩ := hv
  have hts : ∀ w ∈ zTb, w.before av.toArray s = true := fun w hw => atoms_spec (ws := Cond.code y cc maxL ret :: zTb) B.pre w (List.mem_cons_of_mem _ hw)
  have hown : s.vm.findClass y.cls = some m.cls := findClass_of_methodNamed B.named
  have key := walk (p, l, e, rm, s, m, av.toArray, below, meth, c, maxL, MQ below (zQc D K v Sh' top' μ') av.toArray s mc ms (zAf D), D) rfl rfl ⟨B.exec, B.bytes, hml, hown, hts, B.notSynchronized, hK, hT, trivial, rfl, rfl⟩ (name_of_methodNamed B.named B.method).1 ⟨B.returns, rfl⟩
  have hl := lv_entry av (n := maxL) ha
  rw [lg_entry_eq]
  exact key s.heap [] _ hH hz va_S.rf hl
section zCtor
variable {K : zKd} {X : zCx} {cc : ByteArray} {own : String} {T : zTt} {μ μ' : zM} {pc pc' tgt : Nat} {lv lv' : List (Nat × Value)} {st : List Value} {rv : Room} {nv : Nat}
/-- a store into a final field, in a constructor -/
theorem z_putF (fx : zFix X cc own rv nv) (hnm : (X.2.2.2.2.2.2.2.2.1).name = "<init>") {i ci a : Nat} (k0 : Nat) {v : Value} (hs : (T.1 a).1 = ci + 7) (hf : zLf own i ci k0) (hfin : ∀ q : vw_C, zcl[ci]? = some q → (q.2.1 k0).2.2.2 = true ∧ (q.2.1 k0).1 = own)
    (hn : narrow (ztyp ci k0) v = v) (hfit : fits (ztyp ci k0) v = true) (hv : zv K μ' ci a k0 = v) (ho : ∀ k', k' ≠ k0 → zv K μ' ci a k' = zv K μ ci a k')
    (ha : ∀ b sh H, b ≠ a → zcell (zDo X) K μ sh b H → zcell (zDo X) K μ' sh b H) (hdy : zDy K T.1 μ → zDy K T.1 μ')
    (d : zd cc pc (.putfield i) 3 pc') (k : zZ K X T μ' pc' lv st) : zZ K X T μ pc lv (v :: .ref a :: st) := by
  obtain ⟨d, rfl⟩ := d
  obtain ⟨p, l, e, R, s, m, args, below, meth, c, nL, Q, D⟩ := X
  obtain ⟨hx, hb, hml, hown, hts, hlk, hK, hTx, hbs, hR, hnv⟩ := fx
  intro H locs ls h1 h2 h3 h4
  obtain ⟨q, hq, hkq, hlink⟩ := hf
  obtain ⟨hfin, hdecl⟩ := hfin q hq
  have hc := h1.1 a
  rw [show T.1 a = (ci + 7, (T.1 a).2) from Prod.ext hs rfl] at hc
  obtain ⟨r, hr, cell, q1, q2, q3, q4⟩ := hc
  have hrq : r = q := Option.some.inj (hr.symm.trans hq)
  subst hrq
  have hap : ∀ x y, x < r.2.2 → y < r.2.2 → x ≠ y → (D.2.1 ci) x ≠ (D.2.1 ci) y := va_apart (own := own) (C := r.1) (T := r.2.1) (N := r.2.2) hts (zws0 ci r hq) (ztyp ci) (zty0 ci r hq) (znm0 ci r hq) hK hq
  obtain ⟨hS, hfc, kC, hkC, hkind⟩ := hK.1 ci _ hq
  obtain ⟨cf, kf, fi, f, hi, hsl⟩ := hS k0 hkq
  have hlay := hts _ (zws0 ci r hq _ (u_in_lay hkq))
  unfold u_lay at hlay
  rw [if_pos hfin] at hlay
  have hst := (u_facts hfc hkC (u_lays hts (zws0 ci r hq) hkq) hi).1
  have hcf : m.cls = cf := by
    obtain ⟨_, _, c', _, _, _, -, -, hf', -, -, -, hown2, -⟩ := Cond.laysFinal_spec hlay
    have e1 : c' = cf := by have := hi.symm.trans hf'; simp at this; exact this.1.symm
    rw [hdecl] at hown2
    rw [← e1]; exact Option.some.inj (hown.symm.trans hown2)
  have h6 := u_fits hfc hkC hkind (Or.inr hlay) hi (zty0 ci r hq k0 hkq) hn hfit
  have hA : zAf D a := h1.2.1 a (by rw [hs]; omega)
  refine W.putFinK hx hb hown (hts _ hlink) hi hst hcf hnm (by rw [q2]; exact h6) q1 q3 (by rw [hsl]; exact k2_hasslot (q4 k0 hkq)) rfl rfl d fun H' e1 e2 e3 => ?_
  rw [hsl] at e1 ⊢
  refine k H' _ ls ⟨fun b => ?_, h1.2.1, hdy h1.2.2⟩ (e2.trans h2) (h3.put e2 e3 hA) h4
  by_cases hba : b = a
  · subst hba
    rw [show T.1 b = (ci + 7, (T.1 b).2) from Prod.ext hs rfl]
    refine ⟨r, hr, t_OB.to (V := updV (zv K μ ci b) k0 v) ⟨_, e1, q2, q3, t_set q4 hap hkq v⟩ (fun j _ => ?_)⟩
    by_cases hj : j = k0
    · subst hj
      simp only [updV, if_true]
      exact hv.symm
    · simp only [updV, hj, if_false]
      exact (ho j hj).symm
  · exact ha b _ _ hba ((h1.1 b).kept (e3 b hba))
theorem zDy_sR {Sh : zSh} {ci k0 a x : Nat} (hs : (Sh a).1 = ci + 7) (hk : (K.1 ci k0).1 = 4) (hk0 : k0 < 100) (hb : ∀ ci' k', (Sh a).1 = ci' + 7 → 100 * ci' + k' = 100 * ci + k0 → k' = k0) (hx : (Sh x).1 = (K.1 ci k0).2) (h : zDy K Sh μ) : zDy K Sh (sR μ (100 * ci + k0) a (some x)) := by
  refine ⟨fun a' ci' k' w h1 h2 h3 => ?_, h.2⟩
  by_cases e : 100 * ci' + k' = 100 * ci + k0 ∧ a' = a
  · obtain ⟨e1, e2⟩ := e
    subst e2
    have e3 : ci' = ci := by omega
    subst e3
    have e4 : k' = k0 := by omega
    subst e4
    have h4 : some x = some w := by rw [← h3]; exact (zu_s _ _ _ _).symm
    cases h4
    exact hx
  · have h4 : gR (sR μ (100 * ci + k0) a (some x)) (100 * ci' + k') a' = gR μ (100 * ci' + k') a' := by
      show zu _ _ _ _ _ _ = _
      unfold zu
      rw [if_neg e]; rfl
    exact h.1 a' ci' k' w h1 h2 (h4 ▸ h3)
/-- a final reference field -/
theorem z_putRF (fx : zFix X cc own rv nv) (hnm : (X.2.2.2.2.2.2.2.2.1).name = "<init>") {i a : Nat} (ci k0 : Nat) {x : Nat} (hs : (T.1 a).1 = ci + 7) (hf : zLf own i ci k0) (hfin : ∀ q : vw_C, zcl[ci]? = some q → (q.2.1 k0).2.2.2 = true ∧ (q.2.1 k0).1 = own) (hk : (K.1 ci k0).1 = 4 ∧ k0 < 100) (hty : narrow (ztyp ci k0) (.ref x) = .ref x ∧ fits (ztyp ci k0) (.ref x) = true) (hx : (T.1 x).1 = (K.1 ci k0).2)
    (d : zd cc pc (.putfield i) 3 pc') (k : zZ K X T (sR μ (100 * ci + k0) a (some x)) pc' lv st) : zZ K X T μ pc lv (.ref x :: .ref a :: st) := by
  refine z_putF fx hnm k0 hs hf hfin hty.1 hty.2 ?_ ?_ (fun b sh H hb => zcell_sR b sh H hb) (zDy_sR hs hk.1 hk.2 (fun ci' k' h1 h2 => by omega) hx) d k
  · simp only [zv, hk.1]; rw [show gR (sR μ (100 * ci + k0) a (some x)) (100 * ci + k0) a = some x from zu_s _ _ _ _]; rfl
  · intro k' hk'
    have e : gR (sR μ (100 * ci + k0) a (some x)) (100 * ci + k') a = gR μ (100 * ci + k') a := zu_k _ _ (by omega)
    simp only [zv]; rw [e]; rfl
/-- a final int field -/
theorem z_putIF (fx : zFix X cc own rv nv) (hnm : (X.2.2.2.2.2.2.2.2.1).name = "<init>") {i a : Nat} (ci k0 : Nat) {x : Int32} (hs : (T.1 a).1 = ci + 7) (hf : zLf own i ci k0) (hfin : ∀ q : vw_C, zcl[ci]? = some q → (q.2.1 k0).2.2.2 = true ∧ (q.2.1 k0).1 = own) (hk : (K.1 ci k0).1 = 0) (hty : ztyp ci k0 = .int)
    (d : zd cc pc (.putfield i) 3 pc') (k : zZ K X T (sF μ (100 * ci + k0) a x) pc' lv st) : zZ K X T μ pc lv (.int x :: .ref a :: st) := by
  refine z_putF fx hnm k0 hs hf hfin (by rw [hty]; rfl) (by rw [hty]; rfl) ?_ ?_ (fun b sh H hb => zcell_sF b sh H hb) (fun h => h) d k
  · simp only [zv, hk]; rw [show gF (sF μ (100 * ci + k0) a x) (100 * ci + k0) a = x from zu_s _ _ _ _]
  · intro k' hk'
    have e : gF (sF μ (100 * ci + k0) a x) (100 * ci + k') a = gF μ (100 * ci + k') a := zu_k _ _ (by omega)
    simp only [zv]; rw [e]; rfl
/-- a reference field that isn't final, of any kind of reference -/
theorem z_putRN (fx : zFix X cc own rv nv) {i a : Nat} (ci k0 : Nat) {x : Nat} (hs : (T.1 a).1 = ci + 7) (hf : zLf own i ci k0) (hfin : ∀ q : vw_C, zcl[ci]? = some q → (q.2.1 k0).2.2.2 = false) (hk : (K.1 ci k0).1 = 4 ∧ k0 < 100) (hty : narrow (ztyp ci k0) (.ref x) = .ref x ∧ fits (ztyp ci k0) (.ref x) = true) (hx : (T.1 x).1 = (K.1 ci k0).2)
    (d : zd cc pc (.putfield i) 3 pc') (k : zZ K X T (sR μ (100 * ci + k0) a (some x)) pc' lv st) : zZ K X T μ pc lv (.ref x :: .ref a :: st) := by
  refine z_put fx k0 hs hf hfin hty.1 hty.2 ?_ ?_ (fun b sh H hb => zcell_sR b sh H hb) (zDy_sR hs hk.1 hk.2 (fun ci' k' h1 h2 => by omega) hx) d k
  · simp only [zv, hk.1]; rw [show gR (sR μ (100 * ci + k0) a (some x)) (100 * ci + k0) a = some x from zu_s _ _ _ _]; rfl
  · intro k' hk'
    have e : gR (sR μ (100 * ci + k0) a (some x)) (100 * ci + k') a = gR μ (100 * ci + k') a := zu_k _ _ (by omega)
    simp only [zv]; rw [e]; rfl
/-- a call of a constructor -/
theorem z_callI (fx : zFix X cc own rv nv) {y : MethodName} {cc' : ByteArray} {maxL : Nat} {rm : Room} {As : List Value} {b : Nat} {Sh' : zSh} {top' mc ms i n : Nat} (rest : List Value) (hyn : y.name = "<init>")
    (hM : zMet (zLo X) (zDo X) K y cc' maxL none rm (.ref b :: As) T.1 T.2.1 μ none Sh' top' μ' mc ms) (hw : zMw y cc' maxL none n) (hi : Cond.instanceMethod y ∈ zTb) (hl : Cond.methodLink own i y ∈ zTb)
    (hn : As.length = n) (hr : zRoom rm rv maxL mc ms T) (hst : st = As.reverse ++ .ref b :: rest) (hcat : (rest.map fun v => v.category).sum ≤ 8)
    (d : zd cc pc (.invokespecial i) 3 pc') (k : zZ K X (Sh', top', T.2.2.1 + mc, T.2.2.2 + ms) μ' pc' lv rest) : zZ K X T μ pc lv st := by
  obtain ⟨d, rfl⟩ := d
  obtain ⟨p, l, e, R, s, m, args, below, meth, c, nL, Q, D⟩ := X
  obtain ⟨hx, hbc, hml, hown, hts, hlk, hK, hTx, hbs, hR, hnv⟩ := fx
  subst hst
  intro H locs ls h1 h2 h3 h4
  obtain ⟨r1, r2, r3, r4, r5, r6⟩ := hr
  have hR : R = rv := hR
  subst hR
  obtain ⟨w1, w2, w3, w4, w5⟩ := hw
  have hcw : CallB R s args own i y cc' maxL none (.code y cc' maxL none :: zTb) rm mc ms n := by
    refine callB_of (Ts := zTb) (ws' := zTb) n hts (fun w hw => ?_) rfl r1 r2 (hts _ w2) (hts _ hl) ⟨w3, w4, w5⟩ ⟨r3, r4⟩
    have hw' : w ∈ zTb := by
      rcases List.mem_cons.mp hw with h | h
      · rw [h]; exact w1
      · exact h
    exact ⟨hw', good_of_word (zTb_good hw')⟩
  refine z_back (T := T) (va_runI (As := As) (rest := rest) ⟨hx, hbc, hml, hown, hts⟩ hM ⟨hcw, hyn, hts _ hi⟩ ⟨zBlind, fun U hU hW => ⟨rfl, zWd_end hK hTx hbs h1 h2 h3 hU hW⟩⟩ rfl hn h4.1 rfl (lv_room hcat) d ⟨r5, r6⟩) h3 h4 k
/-- a call of a nest mate's private constructor -/
theorem z_callIN (fx : zFix X cc own rv nv) {y : MethodName} {cc' : ByteArray} {maxL : Nat} {rm : Room} {As : List Value} {b : Nat} {Sh' : zSh} {top' mc ms i n : Nat} (rest : List Value) (hyn : y.name = "<init>")
    (hM : zMet (zLo X) (zDo X) K y cc' maxL none rm (.ref b :: As) T.1 T.2.1 μ none Sh' top' μ' mc ms) (hw : zMw y cc' maxL none n) (hi : Cond.instanceMethod y ∈ zTb) (hl : (own, i, y) ∈ zNest)
    (hn : As.length = n) (hr : zRoom rm rv maxL mc ms T) (hst : st = As.reverse ++ .ref b :: rest) (hcat : (rest.map fun v => v.category).sum ≤ 8)
    (d : zd cc pc (.invokespecial i) 3 pc') (k : zZ K X (Sh', top', T.2.2.1 + mc, T.2.2.2 + ms) μ' pc' lv rest) : zZ K X T μ pc lv st := by
  obtain ⟨d, rfl⟩ := d
  obtain ⟨p, l, e, R, s, m, args, below, meth, c, nL, Q, D⟩ := X
  obtain ⟨hx, hbc, hml, hown, hts, hlk, hK, hTx, hbs, hR, hnv⟩ := fx
  subst hst
  intro H locs ls h1 h2 h3 h4
  obtain ⟨r1, r2, r3, r4, r5, r6⟩ := hr
  have hR : R = rv := hR
  subst hR
  obtain ⟨w1, w2, w3, w4, w5⟩ := hw
  have hG : GoodIn zTb (Cond.code y cc' maxL none :: zTb) := fun w hw => by
    have hw' : w ∈ zTb := by
      rcases List.mem_cons.mp hw with h | h
      · rw [h]; exact w1
      · exact h
    exact ⟨hw', good_of_word (zTb_good hw')⟩
  have hcw := va_cnB (own := own) (host := "WaveBridges") (R := R) (index := i) n hts hG rfl r1 r2 (hTx.2.2.2.2.1 _ hl) (hts _ w2) ⟨w3, w4, w5⟩ ⟨r3, r4⟩
  refine z_back (T := T) (va_runIN (As := As) (rest := rest) ⟨hx, hbc, hml, hown, hts⟩ hM ⟨hcw, hyn, hts _ hi⟩ ⟨zBlind, fun U hU hW => ⟨rfl, zWd_end hK hTx hbs h1 h2 h3 hU hW⟩⟩ rfl hn h4.1 rfl (lv_room hcat) d ⟨r5, r6⟩) h3 h4 k
theorem zarrT {D : zDt} {H : Heap} {a n : Nat} : ∀ {t : Nat}, t < 4 → (zcell D K μ (t + 3, n) a H ↔ H[a]? = some (arrV (D.2.2.1 (t + 2)) n (zx K μ t a)))
  | 0, _ => Iff.rfl
  | 1, _ => Iff.rfl
  | 2, _ => Iff.rfl
  | 3, _ => Iff.rfl
theorem zarrK {D : zDt} {U : State} (hK : zKn D U) : ∀ {t : Nat}, t < 4 → ∃ (kA : Class) (comp : ClassId), U.vm.classes[D.2.2.1 (t + 2)]? = some kA ∧ kA.kind = .array comp (.object (zcn t)) ∧ U.vm.findClass (zcn t) = some comp
  | 0, _ => let ⟨kA, comp, k1, k2, k3, _⟩ := (hK.2 2 _ rfl).2; ⟨kA, comp, k1, k2, k3⟩
  | 1, _ => let ⟨kA, comp, k1, k2, k3, _⟩ := (hK.2 3 _ rfl).2; ⟨kA, comp, k1, k2, k3⟩
  | 2, _ => let ⟨kA, comp, k1, k2, k3, _⟩ := (hK.2 4 _ rfl).2; ⟨kA, comp, k1, k2, k3⟩
  | 3, _ => let ⟨kA, comp, k1, k2, k3, _⟩ := (hK.2 5 _ rfl).2; ⟨kA, comp, k1, k2, k3⟩
/-- a reference into an array of references -/
theorem z_aast (fx : zFix X cc own rv nv) {a n j x ci : Nat} {i : Int32} (t : Nat) (ht : t < 4) (hk : (K.2 t).1 = 0) (hs : T.1 a = (t + 3, n)) (hm : rI n i = some j) (hci : (zcl[ci]?).map (fun q => q.1) = some (zcn t)) (hx : (T.1 x).1 = ci + 7) (htg : (K.2 t).2.1 = ci + 7)
    (d : zd cc pc .aastore 1 pc') (k : zZ K X T (sX μ a j (some x)) pc' lv st) : zZ K X T μ pc lv (.ref x :: .int i :: .ref a :: st) := by
  obtain ⟨d, rfl⟩ := d
  obtain ⟨p, l, e, R, s, m, args, below, meth, c, nL, Q, D⟩ := X
  obtain ⟨hxx, hb, hml, hown, hts, hlk, hK, hTx, hbs, hR, hnv⟩ := fx
  intro H locs ls h1 h2 h3 h4
  obtain ⟨hin, e3⟩ := rI_in hm
  have hlt : i.toNatClampNeg < n := Nat.not_le.mp fun q => hin (Or.inr q)
  have h0 : ¬ i < 0 := fun q => hin (Or.inl q)
  have hA : zAf D a := h1.2.1 a (by rw [hs]; exact fun h => by cases h)
  obtain ⟨q, hq, hqc⟩ : ∃ q, zcl[ci]? = some q ∧ q.1 = zcn t := by
    cases hz : zcl[ci]? with
    | none => rw [hz] at hci; cases hci
    | some q => rw [hz] at hci; exact ⟨q, rfl, Option.some.inj hci⟩
  have hcx := h1.1 x
  rw [show T.1 x = (ci + 7, (T.1 x).2) from Prod.ext hx rfl] at hcx
  obtain ⟨r, hr, cellV, g1, g2, g3, -⟩ := hcx
  have hcls := (hK.1 ci q hq).2
  rw [hqc] at hcls
  have hcell : H[a]? = some (arrV (D.2.2.1 (t + 2)) n (zx K μ t a)) := (zarrT ht).mp (zat h1 hs)
  have hty := zarrK hK ht
  obtain ⟨kA, comp, k1, k2, k3⟩ := hty
  have hcomp : comp = D.1 ci := Option.some.inj (k3.symm.trans hcls.1)
  subst hcomp
  obtain ⟨kC, hkC, -⟩ := hcls.2
  refine W.aast hxx hb hcell (fun q h => by cases h) (fun h => by cases h) k1 k2 rfl hkC ⟨h0, by rw [arrV_size]; exact hlt⟩ g1 (fun q h => by rw [g3] at h; cases h) (by rw [g2]; exact hkC) (by rw [g2]; exact va_assign hcls) rfl rfl d fun H1 e z oq => ?_
  have hnew : zcell D K (sX μ a j (some x)) (t + 3, n) a H1 := by
    have e5 : H1[a]? = some (arrV (D.2.2.1 (t + 2)) n (zx K (sX μ a j (some x)) t a)) := by
      rw [e, arrV_store]
      congr 2
      funext q
      by_cases hq : q = i.toNatClampNeg
      · subst hq
        simp only [updV, if_true, zx, hk]
        rw [e3, show gX (sX μ a j (some x)) a j = some x from zu_s _ _ _ _]; rfl
      · simp only [updV, hq, if_false, zx, hk]
        rw [show gX (sX μ a j (some x)) a q = gX μ a q from zu_a _ _ (by rw [← e3]; exact hq)]
    exact (zarrT ht).mpr e5
  refine k H1 _ ls ⟨fun b => ?_, h1.2.1, h1.2.2.1, fun a' u m' j' w w0 w1 w2 w3 => ?_⟩ (z.trans h2) (h3.put z oq hA) h4
  · by_cases hba : b = a
    · subst hba
      rw [hs]
      exact hnew
    · exact zcell_sX b _ _ hba ((h1.1 b).kept (oq b hba))
  · by_cases hh : a' = a ∧ j' = j
    · obtain ⟨rfl, rfl⟩ := hh
      have h9 : some x = some w := by rw [← w3]; exact (zu_s _ _ _ _).symm
      cases h9
      have : u = t := by
        have := w1.symm.trans hs
        have := congrArg Prod.fst this
        simp at this
        exact this
      subst this
      rw [hx, htg]
    · have h9 : gX (sX μ a j (some x)) a' j' = gX μ a' j' := by
        show zu _ _ _ _ _ _ = _
        unfold zu
        rw [if_neg hh]; rfl
      exact h1.2.2.2 a' u m' j' w w0 w1 w2 (h9 ▸ w3)
end zCtor
