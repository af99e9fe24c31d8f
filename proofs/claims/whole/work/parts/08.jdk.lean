/-! what the library's members do -/
def zStrs : List (List Int32) := [[110, 101, 116], [97, 103, 101], [100, 101, 108, 97, 121], [98, 114, 105, 100, 103, 101], [112, 114, 105, 111], [111, 108, 100], [108, 105, 110, 107], [101, 100, 103, 101], [116, 111], [99, 111, 115, 116], [116, 97, 107, 101, 115], [104, 111, 115, 116], [97, 116]]
def sLen (i : Nat) : Int32 := Int32.ofNat (zStrs.getD i []).length
def sChr (i : Nat) (k : Int32) : Option Int32 := (rI (zStrs.getD i []).length k).bind fun j => some ((zStrs.getD i []).getD j 0)
def fillA (μ : zM) (a n : Nat) (v : Int32) : zM := (μ.1, fun a' j => if a' = a ∧ j < n then v else μ.2.1 a' j, μ.2.2.1, μ.2.2.2.1, μ.2.2.2.2.1, μ.2.2.2.2.2)
def fJ_fill (a n : Nat) (v : Int32) (μ : zM) : Option zM := some (fillA μ a n v)
def copyA (μ : zM) (s d sp dp n : Nat) : zM := (μ.1, fun a' j => if a' = d then va_cpy (gA μ s) (gA μ d) sp dp n j else μ.2.1 a' j, μ.2.2.1, μ.2.2.2.1, μ.2.2.2.2.1, μ.2.2.2.2.2)
def fJ_copy (s sn : Nat) (sp : Int32) (d dn : Nat) (dp n : Int32) (μ : zM) : Option zM := if sp < 0 ∨ dp < 0 ∨ n < 0 ∨ sn < sp.toNatClampNeg + n.toNatClampNeg ∨ dn < dp.toNatClampNeg + n.toNatClampNeg then none else some (copyA μ s d sp.toNatClampNeg dp.toNatClampNeg n.toNatClampNeg)
section zJdk
variable {X : zCx} {cc : ByteArray} {own : String} {T : zTt} {μ μ' : zM} {pc pc' tgt : Nat} {lv lv' : List (Nat × Value)} {st : List Value} {rv : Room} {nv : Nat} {Sh : zSh} {top : Nat}
theorem z_ldcS (fx : zFix X cc RX5 rv nv) {x : Nat} (i : Nat) (hi : i < 13) (d : zd cc pc (.ldc x) 2 pc') (k : zZ zK1 X T μ pc' lv (.ref (zSa (zDo X) i) :: st)) : zZ zK1 X T μ pc lv st := sorry
theorem z_slen (fx : zFix X cc RX5 rv nv) {x i : Nat} (hi : i < 13) (hl : Cond.methodLink RX5 x yJ0_length_8abf5 ∈ zTb) (hr : Nat.ble 6 rv.frames && Nat.ble 150 rv.locals = true) (hcat : Nat.ble (st.map fun v => v.category).sum 8 = true) (d : zd cc pc (.invokevirtual x) 3 pc') (k : zZ zK1 X T μ pc' lv (.int (sLen i) :: st)) : zZ zK1 X T μ pc lv (.ref (zSa (zDo X) i) :: st) := sorry
theorem z_schr (fx : zFix X cc RX5 rv nv) {x i : Nat} {j r : Int32} (hi : i < 13) (hm : sChr i j = some r) (hl : Cond.methodLink RX5 x yJ0_charAt_5068e ∈ zTb) (hr : Nat.ble 6 rv.frames && Nat.ble 150 rv.locals = true) (hcat : Nat.ble (st.map fun v => v.category).sum 8 = true) (d : zd cc pc (.invokevirtual x) 3 pc') (k : zZ zK1 X T μ pc' lv (.int r :: st)) : zZ zK1 X T μ pc lv (.int j :: .ref (zSa (zDo X) i) :: st) := sorry
theorem z_copy (fx : zFix X cc own rv nv) {i s sn d dn : Nat} {sp dp n : Int32} (hl : Cond.methodLink own i arraycopyName ∈ zTb) (hs : T.1 s = (1, sn)) (hd : T.1 d = (1, dn)) (hm : fJ_copy s sn sp d dn dp n μ = some μ') (hcat : (st.map fun v => v.category).sum ≤ 8) (hr : 1 ≤ rv.frames ∧ 60 ≤ rv.locals) (dd : zd cc pc (.invokestatic i) 3 pc') (k : zZ zK1 X T μ' pc' lv st) : zZ zK1 X T μ pc lv (.int n :: .int dp :: .ref d :: .int sp :: .ref s :: st) := sorry
theorem msJ_fill : zMs yJ7_fill_53178 cJ7_fill_53178 4 none 2 := sorry
theorem cJ_fill (l : Launch) (D : zDt) (Sh : zSh) (top : Nat) (hO : zOK Sh) (a n : Nat) (v : Int32) (μ μ' : zM) (ha : Sh a = (1, n)) (h : fJ_fill a n v μ = some μ') : zMet l D zK1 yJ7_fill_53178 cJ7_fill_53178 4 none (zrm 0 0) [.ref a, .int v] Sh top μ none Sh top μ' 0 0 := sorry
end zJdk
