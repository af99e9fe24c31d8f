/-! MEMORY RULES -/
theorem zu_s {α : Type} (f : Nat → Nat → α) (k a : Nat) (v : α) : zu f k a v k a = v := by simp [zu]
theorem zu_k {α : Type} (f : Nat → Nat → α) {k a k' a' : Nat} (v : α) (h : k' ≠ k) : zu f k a v k' a' = f k' a' := by simp [zu, h]
theorem zu_a {α : Type} (f : Nat → Nat → α) {k a k' a' : Nat} (v : α) (h : a' ≠ a) : zu f k a v k' a' = f k' a' := by simp [zu, h]
/-- a class's words are among the tables' -/
theorem zws_of {ws : List Cond} (ps : List Nat) (h : ws = ps.filterMap fun i => tables_1[i]?) (g : ws.all goodWord = true) : ∀ w ∈ ws, w ∈ zTb := by
  intro w hw
  have h1 := List.all_eq_true.mp g w hw
  rw [h] at hw
  obtain ⟨i, -, hi⟩ := List.mem_filterMap.mp hw
  exact zTb_t i hi h1
theorem zws_0 : ∀ w ∈ u_ws RX0 TX0 9, w ∈ zTb := zws_of [402, 404, 406, 408, 410, 412, 414, 416, 418] (by decide +kernel) (by decide +kernel)
theorem zws_1 : ∀ w ∈ u_ws RX1 TX1 10, w ∈ zTb := zws_of [93, 95, 97, 99, 101, 103, 105, 107, 109, 111] (by decide +kernel) (by decide +kernel)
theorem zws_2 : ∀ w ∈ u_ws RX2 TX2 7, w ∈ zTb := zws_of [144, 146, 148, 150, 152, 154, 156] (by decide +kernel) (by decide +kernel)
theorem zws_3 : ∀ w ∈ u_ws RX3 TX3 6, w ∈ zTb := zws_of [517, 519, 521, 523, 525, 527] (by decide +kernel) (by decide +kernel)
theorem zws_4 : ∀ w ∈ u_ws RX4 TX4 15, w ∈ zTb := zws_of [462, 464, 466, 468, 470, 472, 474, 476, 478, 480, 482, 484, 486, 488, 490] (by decide +kernel) (by decide +kernel)
theorem zws_5 : ∀ w ∈ u_ws RX5 TX5 10, w ∈ zTb := zws_of [336, 338, 340, 342, 344, 346, 348, 350, 352, 354] (by decide +kernel) (by decide +kernel)
theorem zws_6 : ∀ w ∈ u_ws RX6 TX6 2, w ∈ zTb := zws_of [122, 124] (by decide +kernel) (by decide +kernel)
theorem zws_7 : ∀ w ∈ u_ws RX7 TX7 9, w ∈ zTb := zws_of [182, 184, 186, 188, 190, 192, 194, 196, 198] (by decide +kernel) (by decide +kernel)
theorem zws_8 : ∀ w ∈ u_ws RX8 TX8 18, w ∈ zTb := zws_of [572, 574, 576, 578, 580, 582, 584, 586, 588, 590, 592, 594, 596, 598, 600, 602, 604, 606] (by decide +kernel) (by decide +kernel)
theorem zws_9 : ∀ w ∈ u_ws RX9 TX9 4, w ∈ zTb := zws_of [66, 68, 70, 72] (by decide +kernel) (by decide +kernel)
theorem zws_10 : ∀ w ∈ u_ws RX10 TX10 18, w ∈ zTb := zws_of [280, 282, 284, 286, 288, 290, 292, 294, 296, 298, 300, 302, 304, 306, 308, 310, 312, 314] (by decide +kernel) (by decide +kernel)
theorem zws_11 : ∀ w ∈ u_ws RX11 TX11 18, w ∈ zTb := zws_of [627, 629, 631, 633, 635, 637, 639, 641, 643, 645, 647, 649, 651, 653, 655, 657, 659, 661] (by decide +kernel) (by decide +kernel)
theorem zws_12 : ∀ w ∈ u_ws RX12 TX12 67, w ∈ zTb := zws_of [1542, 1544, 1546, 1548, 1550, 1552, 1554, 1556, 1558, 1560, 1562, 1564, 1566, 1568, 1570, 1572, 1574, 1576, 1578, 1580, 1582, 1584, 1586, 1588, 1590, 1592, 1594, 1596, 1598, 1600, 1602, 1604, 1606, 1608, 1610, 1612, 1614, 1616, 1618, 1620, 1622, 1624, 1626, 1628, 1630, 1632, 1634, 1636, 1638, 1640, 1642, 1644, 1646, 1648, 1650, 1652, 1654, 1656, 1658, 1660, 1662, 1664, 1666, 1668, 1670, 1672, 1674] (by decide +kernel) (by decide +kernel)
theorem zws0 : ∀ (c : Nat) (q : vw_C), zcl[c]? = some q → ∀ w ∈ u_ws q.1 q.2.1 q.2.2, w ∈ zTb := by
  intro c q h
  match c, h with
  | 0, h => cases h; exact zws_0
  | 1, h => cases h; exact zws_1
  | 2, h => cases h; exact zws_2
  | 3, h => cases h; exact zws_3
  | 4, h => cases h; exact zws_4
  | 5, h => cases h; exact zws_5
  | 6, h => cases h; exact zws_6
  | 7, h => cases h; exact zws_7
  | 8, h => cases h; exact zws_8
  | 9, h => cases h; exact zws_9
  | 10, h => cases h; exact zws_10
  | 11, h => cases h; exact zws_11
  | 12, h => cases h; exact zws_12
  | c + 13, h => simp [zcl] at h
theorem znm0 : ∀ (c : Nat) (q : vw_C), zcl[c]? = some q → ∀ a, a < q.2.2 → ∀ b, b < q.2.2 → a ≠ b → (q.2.1 a).2.1 ≠ (q.2.1 b).2.1 := by
  intro c q h
  match c, h with
  | 0, h => cases h; exact nmX0
  | 1, h => cases h; exact nmX1
  | 2, h => cases h; exact nmX2
  | 3, h => cases h; exact nmX3
  | 4, h => cases h; exact nmX4
  | 5, h => cases h; exact nmX5
  | 6, h => cases h; exact nmX6
  | 7, h => cases h; exact nmX7
  | 8, h => cases h; exact nmX8
  | 9, h => cases h; exact nmX9
  | 10, h => cases h; exact nmX10
  | 11, h => cases h; exact nmX11
  | 12, h => cases h; exact nmX12
  | c + 13, h => simp [zcl] at h
/-- the types of a class's fields -/
def ztyp (c : Nat) : Nat → FieldType := match c with
  | 0 => tyX0
  | 1 => tyX1
  | 2 => tyX2
  | 3 => tyX3
  | 4 => tyX4
  | 5 => tyX5
  | 6 => tyX6
  | 7 => tyX7
  | 8 => tyX8
  | 9 => tyX9
  | 10 => tyX10
  | 11 => tyX11
  | _ => tyX12
theorem zty0 : ∀ (c : Nat) (q : vw_C), zcl[c]? = some q → ∀ k, k < q.2.2 → parseFieldDescriptor (q.2.1 k).2.2.1 = some (ztyp c k) := by
  intro c q h
  match c, h with
  | 0, h => cases h; exact tyX0_ok
  | 1, h => cases h; exact tyX1_ok
  | 2, h => cases h; exact tyX2_ok
  | 3, h => cases h; exact tyX3_ok
  | 4, h => cases h; exact tyX4_ok
  | 5, h => cases h; exact tyX5_ok
  | 6, h => cases h; exact tyX6_ok
  | 7, h => cases h; exact tyX7_ok
  | 8, h => cases h; exact tyX8_ok
  | 9, h => cases h; exact tyX9_ok
  | 10, h => cases h; exact tyX10_ok
  | 11, h => cases h; exact tyX11_ok
  | 12, h => cases h; exact tyX12_ok
  | c + 13, h => simp [zcl] at h
/-- entry i of class own's pool is field k of class ci -/
def zLf (own : String) (i ci k : Nat) : Prop := ∃ q : vw_C, zcl[ci]? = some q ∧ k < q.2.2 ∧ Cond.fieldLink own i (q.2.1 k).1 (q.2.1 k).2.1 (q.2.1 k).2.2.1 ∈ zTb
section zMem
variable {K : zKd} {X : zCx} {cc : ByteArray} {own : String} {T : zTt} {μ μ' : zM} {pc pc' tgt : Nat} {lv lv' : List (Nat × Value)} {st : List Value} {rv : Room} {nv : Nat}
theorem z_get (fx : zFix X cc own rv nv) {i ci a : Nat} (k0 : Nat) {v : Value} (hs : (T.1 a).1 = ci + 7) (hf : zLf own i ci k0) (hv : zv K μ ci a k0 = v) (d : zd cc pc (.getfield i) 3 pc') (k : zZ K X T μ pc' lv (v :: st)) : zZ K X T μ pc lv (.ref a :: st) := by
  obtain ⟨d, rfl⟩ := d
  obtain ⟨p, l, e, R, s, m, args, below, meth, c, nL, Q, D⟩ := X
  obtain ⟨hx, hb, hml, hown, hts, hlk, hK, hTx, hbs, hR, hnv⟩ := fx
  intro H locs ls h1 h2 h3 h4
  obtain ⟨q, hq, hkq, hlink⟩ := hf
  have hc := h1.1 a
  rw [show T.1 a = (ci + 7, (T.1 a).2) from Prod.ext hs rfl] at hc
  obtain ⟨r, hr, cell, q1, q2, q3, q4⟩ := hc
  have hrq : r = q := Option.some.inj (hr.symm.trans hq)
  subst hrq
  obtain ⟨hS, hfc, kC, hkC, hkind⟩ := hK.1 ci _ hq
  obtain ⟨cf, kf, fi, f, hi, hsl⟩ := hS k0 hkq
  refine W.getf hx hb hown (hts _ hlink) hi (u_facts hfc hkC (u_lays hts (zws0 ci r hq) hkq) hi).1 q1 (by rw [q3]; exact fun h => by cases h) (v := v) ?_ rfl rfl d (k H locs ls h1 h2 h3 h4)
  rw [hsl, q4 k0 hkq]
  exact congrArg some hv
/-- a store into field k0: all that is asked of the new memory -/
theorem z_put (fx : zFix X cc own rv nv) {i ci a : Nat} (k0 : Nat) {v : Value} (hs : (T.1 a).1 = ci + 7) (hf : zLf own i ci k0) (hfin : ∀ q : vw_C, zcl[ci]? = some q → (q.2.1 k0).2.2.2 = false)
    (hn : narrow (ztyp ci k0) v = v) (hfit : fits (ztyp ci k0) v = true) (hv : zv K μ' ci a k0 = v) (ho : ∀ k', k' ≠ k0 → zv K μ' ci a k' = zv K μ ci a k')
    (ha : ∀ b sh H, b ≠ a → zcell (zDo X) K μ sh b H → zcell (zDo X) K μ' sh b H)
    (hdy : zDy K T.1 μ → zDy K T.1 μ') (d : zd cc pc (.putfield i) 3 pc') (k : zZ K X T μ' pc' lv st) : zZ K X T μ pc lv (v :: .ref a :: st) := by
  obtain ⟨d, rfl⟩ := d
  obtain ⟨p, l, e, R, s, m, args, below, meth, c, nL, Q, D⟩ := X
  obtain ⟨hx, hb, hml, hown, hts, hlk, hK, hTx, hbs, hR, hnv⟩ := fx
  intro H locs ls h1 h2 h3 h4
  obtain ⟨q, hq, hkq, hlink⟩ := hf
  have hfin := hfin q hq
  have hc := h1.1 a
  rw [show T.1 a = (ci + 7, (T.1 a).2) from Prod.ext hs rfl] at hc
  obtain ⟨r, hr, cell, q1, q2, q3, q4⟩ := hc
  have hrq : r = q := Option.some.inj (hr.symm.trans hq)
  subst hrq
  have hap : ∀ x y, x < r.2.2 → y < r.2.2 → x ≠ y → (D.2.1 ci) x ≠ (D.2.1 ci) y := va_apart (own := own) (C := r.1) (T := r.2.1) (N := r.2.2) hts (zws0 ci r hq) (ztyp ci) (zty0 ci r hq) (znm0 ci r hq) hK hq
  obtain ⟨hS, hfc, kC, hkC, hkind⟩ := hK.1 ci _ hq
  obtain ⟨cf, kf, fi, f, hi, hsl⟩ := hS k0 hkq
  have hlay := hts _ (zws0 ci r hq _ (u_in_lay hkq))
  unfold u_lay at hlay
  rw [if_neg (by rw [hfin]; decide)] at hlay
  have hst := (u_facts hfc hkC (u_lays hts (zws0 ci r hq) hkq) hi).1
  have h6 := u_store hfc hkC hkind hlay hi (zty0 ci r hq k0 hkq) hn hfit
  have hA : zAf D a := h1.2.1 a (by rw [hs]; omega)
  refine W.putK hx hb (f := f) ⟨hown, hts _ hlink, ⟨_, _, _, hi⟩, hst⟩ (by rw [q2]; exact h6) q1 q3 (by rw [hsl]; exact k2_hasslot (q4 k0 hkq)) rfl rfl d fun H' e1 e2 e3 => ?_
  rw [hsl] at e1 ⊢
  refine k H' _ ls ⟨fun b => ?_, h1.2.1, hdy h1.2.2⟩ (e2.trans h2) (h3.put e2 e3 hA) h4
  by_cases hba : b = a
  · subst hba
    rw [show T.1 b = (ci + 7, (T.1 b).2) from Prod.ext hs rfl]
    refine ⟨r, hr, t_OB.to (V := updV (zv K μ ci b) k0 v) ⟨_, e1, q2, q3, t_set q4 hap hkq v⟩ (fun j _ => ?_)⟩
    by_cases hj : j = k0
    · subst hj
      simp only [updV, if_true]
      exact hv.symm
    · simp only [updV, hj, if_false]
      exact (ho j hj).symm
  · exact ha b _ _ hba ((h1.1 b).kept (e3 b hba))
theorem zcell_sF {D : zDt} {K : zKd} {k a v} (b : Nat) (sh : Nat × Nat) (H : Heap) (h : b ≠ a) (hc : zcell D K μ sh b H) : zcell D K (sF μ k a v) sh b H := hc.same (fun k' => zu_a _ _ h) (fun _ => rfl) (fun _ => rfl) (fun _ => rfl) (fun _ => rfl) (fun _ => rfl)
theorem zcell_sB {D : zDt} {K : zKd} {k a v} (b : Nat) (sh : Nat × Nat) (H : Heap) (h : b ≠ a) (hc : zcell D K μ sh b H) : zcell D K (sB μ k a v) sh b H := hc.same (fun _ => rfl) (fun _ => rfl) (fun k' => zu_a _ _ h) (fun _ => rfl) (fun _ => rfl) (fun _ => rfl)
theorem zcell_sR {D : zDt} {K : zKd} {k a v} (b : Nat) (sh : Nat × Nat) (H : Heap) (h : b ≠ a) (hc : zcell D K μ sh b H) : zcell D K (sR μ k a v) sh b H := hc.same (fun _ => rfl) (fun _ => rfl) (fun _ => rfl) (fun _ => rfl) (fun k' => zu_a _ _ h) (fun _ => rfl)
theorem zcell_sA {D : zDt} {K : zKd} {k a v} (b : Nat) (sh : Nat × Nat) (H : Heap) (h : b ≠ a) (hc : zcell D K μ sh b H) : zcell D K (sA μ a k v) sh b H := hc.same (fun _ => rfl) (fun k' => zu_k _ _ h) (fun _ => rfl) (fun _ => rfl) (fun _ => rfl) (fun _ => rfl)
theorem zcell_sZ {D : zDt} {K : zKd} {k a v} (b : Nat) (sh : Nat × Nat) (H : Heap) (h : b ≠ a) (hc : zcell D K μ sh b H) : zcell D K (sZ μ a k v) sh b H := hc.same (fun _ => rfl) (fun _ => rfl) (fun _ => rfl) (fun k' => zu_k _ _ h) (fun _ => rfl) (fun _ => rfl)
theorem zcell_sX {D : zDt} {K : zKd} {k a v} (b : Nat) (sh : Nat × Nat) (H : Heap) (h : b ≠ a) (hc : zcell D K μ sh b H) : zcell D K (sX μ a k v) sh b H := hc.same (fun _ => rfl) (fun _ => rfl) (fun _ => rfl) (fun _ => rfl) (fun _ => rfl) (fun k' => zu_k _ _ h)
/-- what the tables of kinds say of field k0 of class ci: kind, not final -/
def zFk (K : zKd) (ci k0 kd : Nat) (ty : FieldType) : Prop := (K.1 ci k0).1 = kd ∧ ztyp ci k0 = ty ∧ ∀ q : vw_C, zcl[ci]? = some q → (q.2.1 k0).2.2.2 = false
theorem z_putI (fx : zFix X cc own rv nv) {i ci a : Nat} (k0 : Nat) {x : Int32} (hs : (T.1 a).1 = ci + 7) (hf : zLf own i ci k0) (hk : zFk K ci k0 0 .int) (hm : wF μ (100 * ci + k0) a x = some μ')
    (d : zd cc pc (.putfield i) 3 pc') (k : zZ K X T μ' pc' lv st) : zZ K X T μ pc lv (.int x :: .ref a :: st) := by
  cases hm
  refine z_put fx k0 hs hf hk.2.2 (by rw [hk.2.1]; rfl) (by rw [hk.2.1]; rfl) ?_ ?_ (fun b sh H hb => zcell_sF b sh H hb) (fun h => h) d k
  · simp only [zv, hk.1]; rw [show gF (sF μ (100 * ci + k0) a x) (100 * ci + k0) a = x from zu_s _ _ _ _]
  · intro k' hk'
    have e : gF (sF μ (100 * ci + k0) a x) (100 * ci + k') a = gF μ (100 * ci + k') a := zu_k _ _ (by omega)
    simp only [zv]; rw [e]; rfl
theorem z_putB (fx : zFix X cc own rv nv) {i ci a : Nat} (k0 : Nat) {x : Bool} (hs : (T.1 a).1 = ci + 7) (hf : zLf own i ci k0) (hk : zFk K ci k0 1 .boolean) (hm : wB μ (100 * ci + k0) a x = some μ')
    (d : zd cc pc (.putfield i) 3 pc') (k : zZ K X T μ' pc' lv st) : zZ K X T μ pc lv (.int (bI x) :: .ref a :: st) := by
  cases hm
  refine z_put fx k0 hs hf hk.2.2 (by rw [hk.2.1]; exact bI_nar x) (by rw [hk.2.1]; exact bI_fit x) ?_ ?_ (fun b sh H hb => zcell_sB b sh H hb) (fun h => h) d k
  · simp only [zv, hk.1]; rw [show gB (sB μ (100 * ci + k0) a x) (100 * ci + k0) a = x from zu_s _ _ _ _]
  · intro k' hk'
    have e : gB (sB μ (100 * ci + k0) a x) (100 * ci + k') a = gB μ (100 * ci + k') a := zu_k _ _ (by omega)
    simp only [zv]; rw [e]; rfl
theorem z_putR (fx : zFix X cc own rv nv) {i ci a : Nat} (k0 : Nat) {x : Nat} {C : String} (hci : ci < 50 ∧ k0 < 100 ∧ ∀ ci' k', 100 * ci' + k' = 100 * ci + k0 → (T.1 a).1 = ci' + 7 → ci' = ci ∧ k' = k0) (hs : (T.1 a).1 = ci + 7) (hf : zLf own i ci k0) (hk : zFk K ci k0 4 (.object C)) (hx : (T.1 x).1 = (K.1 ci k0).2) (hm : wR μ (100 * ci + k0) a x = some μ')
    (d : zd cc pc (.putfield i) 3 pc') (k : zZ K X T μ' pc' lv st) : zZ K X T μ pc lv (.ref x :: .ref a :: st) := by
  cases hm
  refine z_put fx k0 hs hf hk.2.2 (by rw [hk.2.1]; rfl) (by rw [hk.2.1]; rfl) ?_ ?_ (fun b sh H hb => zcell_sR b sh H hb) ?_ d k
  · simp only [zv, hk.1]; rw [show gR (sR μ (100 * ci + k0) a (some x)) (100 * ci + k0) a = some x from zu_s _ _ _ _]; rfl
  · intro k' hk'
    have e : gR (sR μ (100 * ci + k0) a (some x)) (100 * ci + k') a = gR μ (100 * ci + k') a := zu_k _ _ (by omega)
    simp only [zv]; rw [e]; rfl
  · intro h
    refine ⟨fun a' ci' k' w h1 h2 h3 => ?_, h.2⟩
    by_cases e : 100 * ci' + k' = 100 * ci + k0 ∧ a' = a
    · obtain ⟨e1, e2⟩ := e
      subst e2
      obtain ⟨rfl, rfl⟩ := hci.2.2 ci' k' e1 h1
      have h4 : some x = some w := by rw [← h3]; exact (zu_s _ _ _ _).symm
      cases h4
      exact hx
    · have h4 : gR (sR μ (100 * ci + k0) a (some x)) (100 * ci' + k') a' = gR μ (100 * ci' + k') a' := by
        show zu _ _ _ _ _ _ = _
        unfold zu
        rw [if_neg e]; rfl
      exact h.1 a' ci' k' w h1 h2 (h4 ▸ h3)
theorem zat {D : zDt} {K : zKd} {Sh : zSh} {H : Heap} {a t n : Nat} (h1 : zH D K Sh μ H) (hs : Sh a = (t, n)) : zcell D K μ (t, n) a H := hs ▸ h1.1 a
theorem z_iald (fx : zFix X cc own rv nv) {a n : Nat} {i x : Int32} (hs : T.1 a = (1, n)) (hm : rA μ a n i = some x) (d : zd cc pc .iaload 1 pc') (k : zZ K X T μ pc' lv (.int x :: st)) : zZ K X T μ pc lv (.int i :: .ref a :: st) := by
  obtain ⟨d, rfl⟩ := d
  obtain ⟨p, l, e, R, s, m, args, below, meth, c, nL, Q, D⟩ := X
  obtain ⟨hx, hb, hml, hown, hts, hlk, hK, hTx, hbs, hR, hnv⟩ := fx
  intro H locs ls h1 h2 h3 h4
  obtain ⟨j, hj, e2⟩ := zinv hm
  cases e2
  obtain ⟨hin, e3⟩ := rI_in hj
  have hlt : i.toNatClampNeg < n := Nat.not_le.mp fun q => hin (Or.inr q)
  exact W.iald (v := .int (gA μ a j)) hx hb (zat h1 hs) ((hK.2 0 _ rfl).1 n (fun j => .int (gA μ a j))) (fun q => by cases q) (by rw [arrV_size]; exact hin) (by rw [arrV_read _ _ hlt, e3]) rfl rfl d (k H locs ls h1 h2 h3 h4)
theorem z_zald (fx : zFix X cc own rv nv) {a n : Nat} {i : Int32} {x : Bool} (hs : T.1 a = (2, n)) (hm : rZ μ a n i = some x) (d : zd cc pc .baload 1 pc') (k : zZ K X T μ pc' lv (.int (bI x) :: st)) : zZ K X T μ pc lv (.int i :: .ref a :: st) := by
  obtain ⟨d, rfl⟩ := d
  obtain ⟨p, l, e, R, s, m, args, below, meth, c, nL, Q, D⟩ := X
  obtain ⟨hx, hb, hml, hown, hts, hlk, hK, hTx, hbs, hR, hnv⟩ := fx
  intro H locs ls h1 h2 h3 h4
  obtain ⟨j, hj, e2⟩ := zinv hm
  cases e2
  obtain ⟨hin, e3⟩ := rI_in hj
  have hlt : i.toNatClampNeg < n := Nat.not_le.mp fun q => hin (Or.inr q)
  exact W.zald (v := .int (bI (gZ μ a j))) hx hb (zat h1 hs) ((hK.2 1 _ rfl).1 n (fun j => .int (bI (gZ μ a j)))) (fun q => by cases q) (by rw [arrV_size]; exact hin) (by rw [arrV_read _ _ hlt, e3]) rfl rfl d (k H locs ls h1 h2 h3 h4)
theorem z_iast (fx : zFix X cc own rv nv) {a n : Nat} {i x : Int32} (hs : T.1 a = (1, n)) (hm : wA μ a n i x = some μ') (d : zd cc pc .iastore 1 pc') (k : zZ K X T μ' pc' lv st) : zZ K X T μ pc lv (.int x :: .int i :: .ref a :: st) := by
  obtain ⟨d, rfl⟩ := d
  obtain ⟨p, l, e, R, s, m, args, below, meth, c, nL, Q, D⟩ := X
  obtain ⟨hx, hb, hml, hown, hts, hlk, hK, hTx, hbs, hR, hnv⟩ := fx
  intro H locs ls h1 h2 h3 h4
  obtain ⟨j, hj, e2⟩ := zinv hm
  cases e2
  obtain ⟨hin, e3⟩ := rI_in hj
  have hA : zAf D a := h1.2.1 a (by rw [hs]; exact fun h => by cases h)
  refine W.iast hx hb (zat h1 hs) ((hK.2 0 _ rfl).1 n (fun j => .int (gA μ a j))) (fun q => by cases q) (by rw [arrV_size]; exact hin) rfl rfl d fun H1 e z oq => ?_
  refine k H1 _ ls ⟨fun b => ?_, h1.2⟩ (z.trans h2) (h3.put z oq hA) h4
  by_cases hba : b = a
  · subst hba
    rw [hs]
    show H1[b]? = some (arrV _ n _)
    rw [e, arrV_store]
    congr 2
    funext q
    by_cases hq : q = i.toNatClampNeg
    · subst hq
      simp only [updV, if_true]
      rw [e3]
      exact congrArg Value.int (zu_s _ _ _ _).symm
    · simp only [updV, hq, if_false]
      exact congrArg Value.int (zu_a _ _ (by rw [← e3]; exact hq)).symm
  · exact zcell_sA b _ _ hba ((h1.1 b).kept (oq b hba))
theorem z_zast (fx : zFix X cc own rv nv) {a n : Nat} {i : Int32} {x : Bool} (hs : T.1 a = (2, n)) (hm : wZ μ a n i x = some μ') (d : zd cc pc .bastore 1 pc') (k : zZ K X T μ' pc' lv st) : zZ K X T μ pc lv (.int (bI x) :: .int i :: .ref a :: st) := by
  obtain ⟨d, rfl⟩ := d
  obtain ⟨p, l, e, R, s, m, args, below, meth, c, nL, Q, D⟩ := X
  obtain ⟨hx, hb, hml, hown, hts, hlk, hK, hTx, hbs, hR, hnv⟩ := fx
  intro H locs ls h1 h2 h3 h4
  obtain ⟨j, hj, e2⟩ := zinv hm
  cases e2
  obtain ⟨hin, e3⟩ := rI_in hj
  have hA : zAf D a := h1.2.1 a (by rw [hs]; exact fun h => by cases h)
  refine W.zast hx hb (zat h1 hs) ((hK.2 1 _ rfl).1 n (fun j => .int (bI (gZ μ a j)))) (fun q => by cases q) (by rw [arrV_size]; exact hin) rfl rfl d fun H1 e z oq => ?_
  refine k H1 _ ls ⟨fun b => ?_, h1.2⟩ (z.trans h2) (h3.put z oq hA) h4
  by_cases hba : b = a
  · subst hba
    rw [hs]
    show H1[b]? = some (arrV _ n _)
    rw [e, arrV_store, bI_nar]
    congr 2
    funext q
    by_cases hq : q = i.toNatClampNeg
    · subst hq
      simp only [updV, if_true]
      rw [e3]
      exact congrArg (fun z => Value.int (bI z)) (zu_s _ _ _ _).symm
    · simp only [updV, hq, if_false]
      exact congrArg (fun z => Value.int (bI z)) (zu_a _ _ (by rw [← e3]; exact hq)).symm
  · exact zcell_sZ b _ _ hba ((h1.1 b).kept (oq b hba))
theorem z_getI (fx : zFix X cc own rv nv) {i a : Nat} (ci k0 key : Nat) (hs : (T.1 a).1 = ci + 7) (hf : zLf own i ci k0) (hk : K.1 ci k0 = (0, 0) ∧ 100 * ci + k0 = key) (d : zd cc pc (.getfield i) 3 pc') (k : zZ K X T μ pc' lv (.int (gF μ key a) :: st)) : zZ K X T μ pc lv (.ref a :: st) :=
  z_get fx k0 hs hf (by obtain ⟨h1, h2⟩ := hk; subst h2; simp only [zv, h1]) d k
theorem z_getB (fx : zFix X cc own rv nv) {i a : Nat} (ci k0 key : Nat) (hs : (T.1 a).1 = ci + 7) (hf : zLf own i ci k0) (hk : K.1 ci k0 = (1, 0) ∧ 100 * ci + k0 = key) (d : zd cc pc (.getfield i) 3 pc') (k : zZ K X T μ pc' lv (.int (bI (gB μ key a)) :: st)) : zZ K X T μ pc lv (.ref a :: st) :=
  z_get fx k0 hs hf (by obtain ⟨h1, h2⟩ := hk; subst h2; simp only [zv, h1]) d k
theorem z_getO (fx : zFix X cc own rv nv) {i a : Nat} (ci k0 o : Nat) (hs : (T.1 a).1 = ci + 7) (hf : zLf own i ci k0) (hk : K.1 ci k0 = (2, o)) (d : zd cc pc (.getfield i) 3 pc') (k : zZ K X T μ pc' lv (.ref (a + o) :: st)) : zZ K X T μ pc lv (.ref a :: st) :=
  z_get fx k0 hs hf (by simp only [zv, hk]) d k
theorem z_getM (fx : zFix X cc own rv nv) {i a : Nat} (ci k0 o : Nat) (hs : (T.1 a).1 = ci + 7) (hf : zLf own i ci k0) (hk : K.1 ci k0 = (3, o)) (d : zd cc pc (.getfield i) 3 pc') (k : zZ K X T μ pc' lv (.ref (a - o) :: st)) : zZ K X T μ pc lv (.ref a :: st) :=
  z_get fx k0 hs hf (by simp only [zv, hk]) d k
/-- the heap's own facts may be asked for -/
theorem z_dy (kk : zDy K T.1 μ → zZ K X T μ pc lv st) : zZ K X T μ pc lv st := by
  obtain ⟨p, l, e, R, s, m, args, below, meth, c, nL, Q, D⟩ := X
  intro H locs ls h1 h2 h3 h4
  exact kk h1.2.2 H locs ls h1 h2 h3 h4
theorem z_getR (fx : zFix X cc own rv nv) {i a w : Nat} (ci k0 key tg : Nat) (hs : (T.1 a).1 = ci + 7) (hf : zLf own i ci k0) (hk : K.1 ci k0 = (4, tg) ∧ 100 * ci + k0 = key) (hm : gR μ key a = some w) (d : zd cc pc (.getfield i) 3 pc') (k : (T.1 w).1 = tg → zZ K X T μ pc' lv (.ref w :: st)) : zZ K X T μ pc lv (.ref a :: st) := by
  obtain ⟨h1, h2⟩ := hk
  subst h2
  refine z_dy fun hd => z_get fx k0 hs hf (by simp only [zv, h1, hm]; rfl) d (k ?_)
  have := hd.1 a ci k0 w hs (by rw [h1]) hm
  rw [h1] at this
  exact this
/-- an array of references, t = 0 .. 3 -/
theorem z_aald (fx : zFix X cc own rv nv) {a n j : Nat} {i : Int32} {v : Value} (t : Nat) (ht : t < 4) (hs : T.1 a = (t + 3, n)) (hm : rI n i = some j) (hv : zx K μ t a j = v) (d : zd cc pc .aaload 1 pc') (k : zZ K X T μ pc' lv (v :: st)) : zZ K X T μ pc lv (.int i :: .ref a :: st) := by
  obtain ⟨d, rfl⟩ := d
  obtain ⟨p, l, e, R, s, m, args, below, meth, c, nL, Q, D⟩ := X
  obtain ⟨hx, hb, hml, hown, hts, hlk, hK, hTx, hbs, hR, hnv⟩ := fx
  intro H locs ls h1 h2 h3 h4
  obtain ⟨hin, e3⟩ := rI_in hm
  have hlt : i.toNatClampNeg < n := Nat.not_le.mp fun q => hin (Or.inr q)
  have hv : zx K μ t a j = v := hv
  match t, ht, hs, hv with
  | 0, _, hs, hv => exact W.aald (v := v) (ty := .object RX0) hx hb (zat h1 hs) ((hK.2 2 _ rfl).1 n (zx K μ 0 a)) rfl (fun q => by cases q) (by rw [arrV_size]; exact hin) (by rw [arrV_read _ _ hlt, e3, hv]) rfl rfl d (k H locs ls h1 h2 h3 h4)
  | 1, _, hs, hv => exact W.aald (v := v) (ty := .object RX4) hx hb (zat h1 hs) ((hK.2 3 _ rfl).1 n (zx K μ 1 a)) rfl (fun q => by cases q) (by rw [arrV_size]; exact hin) (by rw [arrV_read _ _ hlt, e3, hv]) rfl rfl d (k H locs ls h1 h2 h3 h4)
  | 2, _, hs, hv => exact W.aald (v := v) (ty := .object RX3) hx hb (zat h1 hs) ((hK.2 4 _ rfl).1 n (zx K μ 2 a)) rfl (fun q => by cases q) (by rw [arrV_size]; exact hin) (by rw [arrV_read _ _ hlt, e3, hv]) rfl rfl d (k H locs ls h1 h2 h3 h4)
  | 3, _, hs, hv => exact W.aald (v := v) (ty := .object RX8) hx hb (zat h1 hs) ((hK.2 5 _ rfl).1 n (zx K μ 3 a)) rfl (fun q => by cases q) (by rw [arrV_size]; exact hin) (by rw [arrV_read _ _ hlt, e3, hv]) rfl rfl d (k H locs ls h1 h2 h3 h4)
/-- the length of an array -/
theorem z_alen (fx : zFix X cc own rv nv) {a n : Nat} (hs : T.1 a = (1, n)) (d : zd cc pc .arraylength 1 pc') (k : zZ K X T μ pc' lv (.int (Int32.ofNat n) :: st)) : zZ K X T μ pc lv (.ref a :: st) := by
  obtain ⟨d, rfl⟩ := d
  obtain ⟨p, l, e, R, s, m, args, below, meth, c, nL, Q, D⟩ := X
  obtain ⟨hx, hb, hml, hown, hts, hlk, hK, hTx, hbs, hR, hnv⟩ := fx
  intro H locs ls h1 h2 h3 h4
  exact W.alen hx hb (zat h1 hs) ((hK.2 0 _ rfl).1 n (fun j => .int (gA μ a j))) (by rw [arrV_size]) rfl rfl d (k H locs ls h1 h2 h3 h4)
end zMem
