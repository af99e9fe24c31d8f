/-! what the library's members do -/
def sLen (i : Nat) : Int32 := Int32.ofNat (zStrs.getD i []).length
def sChr (i : Nat) (k : Int32) : Option Int32 := (rI (zStrs.getD i []).length k).bind fun j => some ((zStrs.getD i []).getD j 0)
def fillA (μ : zM) (a n : Nat) (v : Int32) : zM := (μ.1, fun a' j => if a' = a ∧ j < n then v else μ.2.1 a' j, μ.2.2.1, μ.2.2.2.1, μ.2.2.2.2.1, μ.2.2.2.2.2)
def fJ_fill (a n : Nat) (v : Int32) (μ : zM) : Option zM := some (fillA μ a n v)
def copyA (μ : zM) (s d sp dp n : Nat) : zM := (μ.1, fun a' j => if a' = d then va_cpy (gA μ s) (gA μ d) sp dp n j else μ.2.1 a' j, μ.2.2.1, μ.2.2.2.1, μ.2.2.2.2.1, μ.2.2.2.2.2)
def fJ_copy (s sn : Nat) (sp : Int32) (d dn : Nat) (dp n : Int32) (μ : zM) : Option zM := if sp < 0 ∨ dp < 0 ∨ n < 0 ∨ sn < sp.toNatClampNeg + n.toNatClampNeg ∨ dn < dp.toNatClampNeg + n.toNatClampNeg then none else some (copyA μ s d sp.toNatClampNeg dp.toNatClampNeg n.toNatClampNeg)
theorem mJ_len : zMw yJ0_length_8abf5 cJ0_length_8abf5 1 (some .int) 0 ∧ Cond.instanceMethod yJ0_length_8abf5 ∈ zTb ∧ Cond.selects yJ0_length_8abf5.cls yJ0_length_8abf5 yJ0_length_8abf5 ∈ zTb := ⟨⟨zTb4 7 rfl rfl, zTb1 15 rfl rfl, by decide, by decide, by decide +kernel⟩, zTb4 5 rfl rfl, zTb4 6 rfl rfl⟩
theorem mJ_cod : zMw yJ0_coder_7d493 cJ0_coder_7d493 1 (some .byte) 0 ∧ Cond.instanceMethod yJ0_coder_7d493 ∈ zTb ∧ Cond.selects yJ0_coder_7d493.cls yJ0_coder_7d493 yJ0_coder_7d493 ∈ zTb := ⟨⟨zTb4 11 rfl rfl, zTb1 15 rfl rfl, by decide, by decide, by decide +kernel⟩, zTb4 9 rfl rfl, zTb4 10 rfl rfl⟩
theorem mJ_lat : zMw yJ0_isLatin1_aae02 cJ0_isLatin1_aae02 1 (some .boolean) 0 ∧ Cond.instanceMethod yJ0_isLatin1_aae02 ∈ zTb ∧ Cond.selects yJ0_isLatin1_aae02.cls yJ0_isLatin1_aae02 yJ0_isLatin1_aae02 ∈ zTb := ⟨⟨zTb4 25 rfl rfl, zTb1 15 rfl rfl, by decide, by decide, by decide +kernel⟩, zTb4 23 rfl rfl, zTb4 24 rfl rfl⟩
theorem mJ_chr : zMw yJ0_charAt_5068e cJ0_charAt_5068e 2 (some .char) 1 ∧ Cond.instanceMethod yJ0_charAt_5068e ∈ zTb ∧ Cond.selects yJ0_charAt_5068e.cls yJ0_charAt_5068e yJ0_charAt_5068e ∈ zTb := ⟨⟨zTb4 21 rfl rfl, zTb1 15 rfl rfl, by decide, by decide, by decide +kernel⟩, zTb4 19 rfl rfl, zTb4 20 rfl rfl⟩
theorem mJ_chk : zMw yJ0_checkIndex_df160 cJ0_checkIndex_df160 2 none 2 ∧ Cond.static yJ0_checkIndex_df160 ∈ zTb := ⟨⟨zTb4 31 rfl rfl, zTb1 15 rfl rfl, by decide, by decide, by decide +kernel⟩, zTb4 30 rfl rfl⟩
theorem mJ_lch : zMw yJ1_charAt_3b067 cJ1_charAt_3b067 2 (some .char) 2 ∧ Cond.static yJ1_charAt_3b067 ∈ zTb := ⟨⟨zTb4 28 rfl rfl, zTb1 16 rfl rfl, by decide, by decide, by decide +kernel⟩, zTb4 27 rfl rfl⟩
theorem mJ_pre : zMw yJ3_checkIndex_8e157 cJ3_checkIndex_8e157 3 (some .int) 3 ∧ Cond.static yJ3_checkIndex_8e157 ∈ zTb := ⟨⟨zTb4 36 rfl rfl, zTb1 17 rfl rfl, by decide, by decide, by decide +kernel⟩, zTb4 35 rfl rfl⟩
theorem msJ_fill : zMs yJ7_fill_53178 cJ7_fill_53178 4 none 2 := ⟨⟨zTb3 222 rfl rfl, zTb1 14 rfl rfl, by decide, by decide, by decide +kernel⟩, zTb3 221 rfl rfl⟩
theorem dj_len_0 : zd cJ0_length_8abf5 0 (.aload_n 0) 1 1 := by decide +kernel
theorem dj_len_1 : zd cJ0_length_8abf5 1 (.getfield 9) 3 4 := by decide +kernel
theorem dj_len_4 : zd cJ0_length_8abf5 4 (.arraylength) 1 5 := by decide +kernel
theorem dj_len_5 : zd cJ0_length_8abf5 5 (.aload_n 0) 1 6 := by decide +kernel
theorem dj_len_6 : zd cJ0_length_8abf5 6 (.invokevirtual 335) 3 9 := by decide +kernel
theorem dj_len_9 : zd cJ0_length_8abf5 9 (.ishr) 1 10 := by decide +kernel
theorem dj_len_10 : zd cJ0_length_8abf5 10 (.ireturn) 1 11 := by decide +kernel
theorem dj_chr_0 : zd cJ0_charAt_5068e 0 (.aload_n 0) 1 1 := by decide +kernel
theorem dj_chr_1 : zd cJ0_charAt_5068e 1 (.invokevirtual 492) 3 4 := by decide +kernel
theorem dj_chr_4 : zj cJ0_charAt_5068e 4 (.ifCond .eq 12) 12 7 16 := by decide +kernel
theorem dj_chr_7 : zd cJ0_charAt_5068e 7 (.aload_n 0) 1 8 := by decide +kernel
theorem dj_chr_8 : zd cJ0_charAt_5068e 8 (.getfield 9) 3 11 := by decide +kernel
theorem dj_chr_11 : zd cJ0_charAt_5068e 11 (.iload_n 1) 1 12 := by decide +kernel
theorem dj_chr_12 : zd cJ0_charAt_5068e 12 (.invokestatic 495) 3 15 := by decide +kernel
theorem dj_chr_15 : zd cJ0_charAt_5068e 15 (.ireturn) 1 16 := by decide +kernel
theorem dj_chr_16 : zd cJ0_charAt_5068e 16 (.aload_n 0) 1 17 := by decide +kernel
theorem dj_chr_17 : zd cJ0_charAt_5068e 17 (.getfield 9) 3 20 := by decide +kernel
theorem dj_chr_20 : zd cJ0_charAt_5068e 20 (.iload_n 1) 1 21 := by decide +kernel
theorem dj_chr_21 : zd cJ0_charAt_5068e 21 (.invokestatic 498) 3 24 := by decide +kernel
theorem dj_chr_24 : zd cJ0_charAt_5068e 24 (.ireturn) 1 25 := by decide +kernel
theorem dj_cod_0 : zd cJ0_coder_7d493 0 (.getstatic 38) 3 3 := by decide +kernel
theorem dj_cod_3 : zj cJ0_coder_7d493 3 (.ifCond .eq 10) 10 6 13 := by decide +kernel
theorem dj_cod_6 : zd cJ0_coder_7d493 6 (.aload_n 0) 1 7 := by decide +kernel
theorem dj_cod_7 : zd cJ0_coder_7d493 7 (.getfield 15) 3 10 := by decide +kernel
theorem dj_cod_10 : zj cJ0_coder_7d493 10 (.goto 4) 4 13 14 := by decide +kernel
theorem dj_cod_13 : zd cJ0_coder_7d493 13 (.iconst 1) 1 14 := by decide +kernel
theorem dj_cod_14 : zd cJ0_coder_7d493 14 (.ireturn) 1 15 := by decide +kernel
theorem dj_lat_0 : zd cJ0_isLatin1_aae02 0 (.getstatic 38) 3 3 := by decide +kernel
theorem dj_lat_3 : zj cJ0_isLatin1_aae02 3 (.ifCond .eq 14) 14 6 17 := by decide +kernel
theorem dj_lat_6 : zd cJ0_isLatin1_aae02 6 (.aload_n 0) 1 7 := by decide +kernel
theorem dj_lat_7 : zd cJ0_isLatin1_aae02 7 (.getfield 15) 3 10 := by decide +kernel
theorem dj_lat_10 : zj cJ0_isLatin1_aae02 10 (.ifCond .ne 7) 7 13 17 := by decide +kernel
theorem dj_lat_13 : zd cJ0_isLatin1_aae02 13 (.iconst 1) 1 14 := by decide +kernel
theorem dj_lat_14 : zj cJ0_isLatin1_aae02 14 (.goto 4) 4 17 18 := by decide +kernel
theorem dj_lat_17 : zd cJ0_isLatin1_aae02 17 (.iconst 0) 1 18 := by decide +kernel
theorem dj_lat_18 : zd cJ0_isLatin1_aae02 18 (.ireturn) 1 19 := by decide +kernel
theorem dj_chk_0 : zd cJ0_checkIndex_df160 0 (.iload_n 0) 1 1 := by decide +kernel
theorem dj_chk_1 : zd cJ0_checkIndex_df160 1 (.iload_n 1) 1 2 := by decide +kernel
theorem dj_chk_2 : zd cJ0_checkIndex_df160 2 (.getstatic 1053) 3 5 := by decide +kernel
theorem dj_chk_5 : zd cJ0_checkIndex_df160 5 (.invokestatic 1059) 3 8 := by decide +kernel
theorem dj_chk_8 : zd cJ0_checkIndex_df160 8 (.pop) 1 9 := by decide +kernel
theorem dj_chk_9 : zd cJ0_checkIndex_df160 9 (.return_) 1 10 := by decide +kernel
theorem dj_lch_0 : zd cJ1_charAt_3b067 0 (.iload_n 1) 1 1 := by decide +kernel
theorem dj_lch_1 : zd cJ1_charAt_3b067 1 (.aload_n 0) 1 2 := by decide +kernel
theorem dj_lch_2 : zd cJ1_charAt_3b067 2 (.arraylength) 1 3 := by decide +kernel
theorem dj_lch_3 : zd cJ1_charAt_3b067 3 (.invokestatic 9) 3 6 := by decide +kernel
theorem dj_lch_6 : zd cJ1_charAt_3b067 6 (.aload_n 0) 1 7 := by decide +kernel
theorem dj_lch_7 : zd cJ1_charAt_3b067 7 (.iload_n 1) 1 8 := by decide +kernel
theorem dj_lch_8 : zd cJ1_charAt_3b067 8 (.baload) 1 9 := by decide +kernel
theorem dj_lch_9 : zd cJ1_charAt_3b067 9 (.sipush 255) 3 12 := by decide +kernel
theorem dj_lch_12 : zd cJ1_charAt_3b067 12 (.iand) 1 13 := by decide +kernel
theorem dj_lch_13 : zd cJ1_charAt_3b067 13 (.i2c) 1 14 := by decide +kernel
theorem dj_lch_14 : zd cJ1_charAt_3b067 14 (.ireturn) 1 15 := by decide +kernel
theorem dj_fil_0 : zd cJ7_fill_53178 0 (.iconst 0) 1 1 := by decide +kernel
theorem dj_fil_1 : zd cJ7_fill_53178 1 (.istore_n 2) 1 2 := by decide +kernel
theorem dj_fil_2 : zd cJ7_fill_53178 2 (.aload_n 0) 1 3 := by decide +kernel
theorem dj_fil_3 : zd cJ7_fill_53178 3 (.arraylength) 1 4 := by decide +kernel
theorem dj_fil_4 : zd cJ7_fill_53178 4 (.istore_n 3) 1 5 := by decide +kernel
theorem dj_fil_5 : zd cJ7_fill_53178 5 (.iload_n 2) 1 6 := by decide +kernel
theorem dj_fil_6 : zd cJ7_fill_53178 6 (.iload_n 3) 1 7 := by decide +kernel
theorem dj_fil_7 : zj cJ7_fill_53178 7 (.if_icmp .ge 13) 13 10 20 := by decide +kernel
theorem dj_fil_10 : zd cJ7_fill_53178 10 (.aload_n 0) 1 11 := by decide +kernel
theorem dj_fil_11 : zd cJ7_fill_53178 11 (.iload_n 2) 1 12 := by decide +kernel
theorem dj_fil_12 : zd cJ7_fill_53178 12 (.iload_n 1) 1 13 := by decide +kernel
theorem dj_fil_13 : zd cJ7_fill_53178 13 (.iastore) 1 14 := by decide +kernel
theorem dj_fil_14 : zd cJ7_fill_53178 14 (.iinc 2 1) 3 17 := by decide +kernel
theorem dj_fil_17 : zj cJ7_fill_53178 17 (.goto (-12)) (-12) 20 5 := by decide +kernel
theorem dj_fil_20 : zd cJ7_fill_53178 20 (.return_) 1 21 := by decide +kernel
theorem dj_pre_0 : zd cJ3_checkIndex_8e157 0 (.iload_n 0) 1 1 := by decide +kernel
theorem dj_pre_1 : zj cJ3_checkIndex_8e157 1 (.ifCond .lt 8) 8 4 9 := by decide +kernel
theorem dj_pre_4 : zd cJ3_checkIndex_8e157 4 (.iload_n 0) 1 5 := by decide +kernel
theorem dj_pre_5 : zd cJ3_checkIndex_8e157 5 (.iload_n 1) 1 6 := by decide +kernel
theorem dj_pre_6 : zj cJ3_checkIndex_8e157 6 (.if_icmp .lt 10) 10 9 16 := by decide +kernel
theorem dj_pre_9 : zd cJ3_checkIndex_8e157 9 (.aload_n 2) 1 10 := by decide +kernel
theorem dj_pre_10 : zd cJ3_checkIndex_8e157 10 (.iload_n 0) 1 11 := by decide +kernel
theorem dj_pre_11 : zd cJ3_checkIndex_8e157 11 (.iload_n 1) 1 12 := by decide +kernel
theorem dj_pre_12 : zd cJ3_checkIndex_8e157 12 (.invokestatic 95) 3 15 := by decide +kernel
theorem dj_pre_15 : zd cJ3_checkIndex_8e157 15 (.athrow) 1 16 := by decide +kernel
theorem dj_pre_16 : zd cJ3_checkIndex_8e157 16 (.iload_n 0) 1 17 := by decide +kernel
theorem dj_pre_17 : zd cJ3_checkIndex_8e157 17 (.ireturn) 1 18 := by decide +kernel
section zJdk
variable {K : zKd} {lvr : List Value} {X : zCx} {cc : ByteArray} {own : String} {T : zTt} {μ μ' : zM} {pc pc' tgt : Nat} {lv lv' : List (Nat × Value)} {st : List Value} {rv : Room} {nv : Nat} {Sh : zSh} {top : Nat}
theorem z_ldcS (fx : zFix X cc RX5 rv nv) (i : Nat) (hi : i < 13) (d : zd cc pc (.ldc (26 + 2 * i)) 2 pc') (k : zZ K X T μ pc' lv (.ref (zSa (zDo X) i) :: st)) : zZ K X T μ pc lv st := by
  obtain ⟨d, rfl⟩ := d
  obtain ⟨p, l, e, R, s, m, args, below, meth, c, nL, Q, D⟩ := X
  obtain ⟨hx, hb, hml, hown, hts, hlk, hK, hTx, hbs, hR, hnv⟩ := fx
  intro H locs ls h1 h2 h3 h4
  exact va_ldcS hx hb hown (hTx.2.1 i hi) d (k H locs ls h1 h2 h3 h4)
theorem z_xreturn (fx : zFix X cc own rv nv) {x : Int32} {ty : FieldType} (hn : narrow ty (.int x) = .int x) (fin : zFin K X (some ty) (some (.int x)) T μ) (d : zd cc pc .ireturn 1 pc') : zZ K X T μ pc lv [.int x] := by
  obtain ⟨d, rfl⟩ := d
  obtain ⟨p, l, e, R, s, m, args, below, meth, c, nL, Q, D⟩ := X
  obtain ⟨hx, hb, hml, hown, hts, hlk, hK, hTx, hbs, hR, hnv⟩ := fx
  obtain ⟨hr, rfl⟩ := fin
  intro H locs ls h1 h2 h3 h4
  exact W.zret hx hb hr hn (fun t ht hw => ⟨rfl, zWd_end hK hTx hbs h1 h2 h3 ht hw, h3.F ht⟩) h3.2.2 d hlk
theorem z_cstr (fx : zFix X cc RJ0 rv nv) (d : zd cc pc (.getstatic 38) 3 pc') (k : zZ K X T μ pc' lv (.int 1 :: st)) : zZ K X T μ pc lv st := by
  obtain ⟨d, rfl⟩ := d
  obtain ⟨p, l, e, R, s, m, args, below, meth, c, nL, Q, D⟩ := X
  obtain ⟨hx, hb, hml, hown, hts, hlk, hK, hTx, hbs, hR, hnv⟩ := fx
  intro H locs ls h1 h2 h3 h4
  exact va_gets hx hb hTx.2.2.1 h3 hown (hts (.fieldLink "java/lang/String" 38 "java/lang/String" "COMPACT_STRINGS" "Z") (zTb4 12 rfl rfl)) (fun x h => h) d (k H locs ls h1 h2 h3 h4)
theorem z_sfmt (fx : zFix X cc RJ0 rv nv) (d : zd cc pc (.getstatic 1053) 3 pc') (k : ∀ v : Value, v.category = 1 → zZ K X T μ pc' lv (v :: st)) : zZ K X T μ pc lv st := by
  obtain ⟨d, rfl⟩ := d
  obtain ⟨p, l, e, R, s, m, args, below, meth, c, nL, Q, D⟩ := X
  obtain ⟨hx, hb, hml, hown, hts, hlk, hK, hTx, hbs, hR, hnv⟩ := fx
  intro H locs ls h1 h2 h3 h4
  rcases hTx.2.2.2.1 with hz | ⟨t, hz⟩
  · exact va_gets hx hb hz h3 hown (hts (.fieldLink "java/lang/String" 1053 "jdk/internal/util/Preconditions" "SIOOBE_FORMATTER" "Ljava/util/function/BiFunction;") (zTb4 32 rfl rfl)) (fun x h => h) d (k .null rfl H locs ls h1 h2 h3 h4)
  · exact va_gets hx hb hz h3 hown (hts (.fieldLink "java/lang/String" 1053 "jdk/internal/util/Preconditions" "SIOOBE_FORMATTER" "Ljava/util/function/BiFunction;") (zTb4 32 rfl rfl)) (fun x h => h) d (k (.ref t) rfl H locs ls h1 h2 h3 h4)
theorem z_scod (fx : zFix X cc RJ0 rv nv) {i : Nat} (hi : i < 13) (d : zd cc pc (.getfield 15) 3 pc') (k : zZ K X T μ pc' lv (.int 0 :: st)) : zZ K X T μ pc lv (.ref (zSa (zDo X) i) :: st) := by
  obtain ⟨d, rfl⟩ := d
  obtain ⟨p, l, e, R, s, m, args, below, meth, c, nL, Q, D⟩ := X
  obtain ⟨hx, hb, hml, hown, hts, hlk, hK, hTx, hbs, hR, hnv⟩ := fx
  intro H locs ls h1 h2 h3 h4
  exact vk_getf hx hb (hTx.1.1 i hi).2.1 h3 hown (hts (.fieldLink "java/lang/String" 15 "java/lang/String" "coder" "B") (zTb10 150 rfl rfl)) (fun x h => h) d (k H locs ls h1 h2 h3 h4)
def zSv (D : zDt) (i : Nat) : Nat := D.2.2.2.2.1 i
theorem z_sval (fx : zFix X cc RJ0 rv nv) {i : Nat} (hi : i < 13) (d : zd cc pc (.getfield 9) 3 pc') (k : zZ K X T μ pc' lv (.ref (zSv (zDo X) i) :: st)) : zZ K X T μ pc lv (.ref (zSa (zDo X) i) :: st) := by
  obtain ⟨d, rfl⟩ := d
  obtain ⟨p, l, e, R, s, m, args, below, meth, c, nL, Q, D⟩ := X
  obtain ⟨hx, hb, hml, hown, hts, hlk, hK, hTx, hbs, hR, hnv⟩ := fx
  intro H locs ls h1 h2 h3 h4
  exact vk_getf hx hb (hTx.1.1 i hi).2.2.1 h3 hown (hts (.fieldLink "java/lang/String" 9 "java/lang/String" "value" "[B") (zTb10 149 rfl rfl)) (fun x h => h) d (k H locs ls h1 h2 h3 h4)
theorem z_svlen (fx : zFix X cc own rv nv) {i : Nat} (hi : i < 13) (d : zd cc pc .arraylength 1 pc') (k : zZ K X T μ pc' lv (.int (Int32.ofNat (zLens.getD i 0)) :: st)) : zZ K X T μ pc lv (.ref (zSv (zDo X) i) :: st) := by
  obtain ⟨d, rfl⟩ := d
  obtain ⟨p, l, e, R, s, m, args, below, meth, c, nL, Q, D⟩ := X
  obtain ⟨hx, hb, hml, hown, hts, hlk, hK, hTx, hbs, hR, hnv⟩ := fx
  intro H locs ls h1 h2 h3 h4
  exact va_tlen hx hb (hTx.1.1 i hi).2.2.2 h3 rfl d (k H locs ls h1 h2 h3 h4)
theorem z_svld (fx : zFix X cc own rv nv) {i : Nat} {j : Int32} (hi : i < 13) (hj : vp_in j (zLens.getD i 0)) (d : zd cc pc .baload 1 pc') (k : zZ K X T μ pc' lv (.int ((zStrs.getD i []).getD j.toNatClampNeg 0) :: st)) : zZ K X T μ pc lv (.int j :: .ref (zSv (zDo X) i) :: st) := by
  obtain ⟨d, rfl⟩ := d
  obtain ⟨p, l, e, R, s, m, args, below, meth, c, nL, Q, D⟩ := X
  obtain ⟨hx, hb, hml, hown, hts, hlk, hK, hTx, hbs, hR, hnv⟩ := fx
  intro H locs ls h1 h2 h3 h4
  exact va_tb hx hb (hTx.1.1 i hi).2.2.2 h3 hj rfl d (k H locs ls h1 h2 h3 h4)
/-- a call on a text -/
theorem z_callT (fx : zFix X cc own rv nv) {y : MethodName} {cc' : ByteArray} {maxL : Nat} {ret : Option FieldType} {rm : Room} {As : List Value} {b : Nat} {v : Value} {i n : Nat} (hb13 : b < 13) (hyc : y.cls = "java/lang/String")
    (hM : zMet (zLo X) (zDo X) K y cc' maxL ret rm (.ref (zSa (zDo X) b) :: As) Sh top μ (some v) Sh top μ 0 0) (hw : zMw y cc' maxL ret n ∧ Cond.instanceMethod y ∈ zTb ∧ Cond.selects y.cls y y ∈ zTb) (hl : Cond.methodLink own i y ∈ zTb)
    (hn : As.length = n) (hr : zRb rm rv maxL = true) (hst : st = As.reverse ++ .ref (zSa (zDo X) b) :: lvr) (hcat : Nat.ble (lvr.map fun v => v.category).sum 8 = true)
    (d : zd cc pc (.invokevirtual i) 3 pc') (k : zZ K X (zT0 Sh top) μ pc' lv (v :: lvr)) : zZ K X (zT0 Sh top) μ pc lv st := by
  obtain ⟨d, rfl⟩ := d
  obtain ⟨p, l, e, R, s, m, args, below, meth, c, nL, Q, D⟩ := X
  obtain ⟨hx, hbc, hml, hown, hts, hlk, hK, hTx, hbs, hR, hnv⟩ := fx
  subst hst
  intro H locs ls h1 h2 h3 h4
  obtain ⟨r1, r2, r3, r4, r5, r6⟩ := zRb_of (Sh := Sh) (top := top) hr
  have hR : R = rv := hR
  subst hR
  obtain ⟨⟨w1, w2, w3, w4, w5⟩, hi, hsel⟩ := hw
  have hcw : CallW R s args own y.cls i y cc' maxL ret (.code y cc' maxL ret :: zTb) rm 0 0 n := by
    refine ⟨callB_of (Ts := zTb) (ws' := zTb) n hts (fun w hw => ?_) rfl r1 r2 (hts _ w2) (hts _ hl) ⟨w3, w4, w5⟩ ⟨r3, r4⟩, hts _ hi, hts _ hsel⟩
    have hw' : w ∈ zTb := by
      rcases List.mem_cons.mp hw with h | h
      · rw [h]; exact w1
      · exact h
    exact ⟨hw', good_of_word (zTb_good hw')⟩
  refine z_back (T := zT0 Sh top) (va_runV (As := As) (rest := lvr) ⟨hx, hbc, hml, hown, hts⟩ hM hcw ⟨zBlind, ?_, fun U hU hW => ⟨rfl, zWd_end hK hTx hbs h1 h2 h3 hU hW⟩⟩ rfl hn h4.1 rfl (lv_room (Nat.le_of_ble_eq_true hcat)) d ⟨r5, r6⟩) h3 h4 k
  rw [hyc]
  exact vk_recv hTx.1 hb13 h3
theorem cJ_cod (l : Launch) (D : zDt) (Sh : zSh) (top : Nat) (μ : zM) (i : Nat) (hi : i < 13) : zMet l D K yJ0_coder_7d493 cJ0_coder_7d493 1 (some .byte) (zrm 0 0) [.ref (zSa D i)] Sh top μ (some (.int 0)) Sh top μ 0 0 := by
  refine zMet_of (by decide) (Nat.le_of_ble_eq_true rfl) fun X hX1 hX2 fx fin => ?_
  subst hX1; subst hX2
  replace fx : zFix X cJ0_coder_7d493 RJ0 (zrm 0 0) 1 := fx
  show zZ K X (zT0 Sh top) μ 0 [(0, .ref (zSa (zDo X) i))] []
  refine z_cstr fx dj_cod_0 ?_
  refine z_if_eq fx dj_cod_3 (fun c => absurd c (by decide)) (fun c => ?_)
  refine z_aload_n fx (k := 0) (i := 0) rfl rfl dj_cod_6 ?_
  refine z_scod fx hi dj_cod_7 ?_
  refine z_goto fx dj_cod_10 ?_
  exact z_xreturn fx (by decide) fin dj_cod_14
theorem cJ_lat (l : Launch) (D : zDt) (Sh : zSh) (top : Nat) (μ : zM) (i : Nat) (hi : i < 13) : zMet l D K yJ0_isLatin1_aae02 cJ0_isLatin1_aae02 1 (some .boolean) (zrm 0 0) [.ref (zSa D i)] Sh top μ (some (.int 1)) Sh top μ 0 0 := by
  refine zMet_of (by decide) (Nat.le_of_ble_eq_true rfl) fun X hX1 hX2 fx fin => ?_
  subst hX1; subst hX2
  replace fx : zFix X cJ0_isLatin1_aae02 RJ0 (zrm 0 0) 1 := fx
  show zZ K X (zT0 Sh top) μ 0 [(0, .ref (zSa (zDo X) i))] []
  refine z_cstr fx dj_lat_0 ?_
  refine z_if_eq fx dj_lat_3 (fun c => absurd c (by decide)) (fun c => ?_)
  refine z_aload_n fx (k := 0) (i := 0) rfl rfl dj_lat_6 ?_
  refine z_scod fx hi dj_lat_7 ?_
  refine z_if_ne fx dj_lat_10 (fun c => absurd c (by decide)) (fun c => ?_)
  refine z_iconst fx (v := 1) (by decide) dj_lat_13 ?_
  refine z_goto fx dj_lat_14 ?_
  exact z_xreturn fx (by decide) fin dj_lat_18
theorem cJ_pre (l : Launch) (D : zDt) (Sh : zSh) (top : Nat) (μ : zM) (i n : Int32) (v : Value) (hv : v.category = 1) (h0 : clt i 0 = false) (h1 : clt i n = true) : zMet l D K yJ3_checkIndex_8e157 cJ3_checkIndex_8e157 3 (some .int) (zrm 0 0) [.int i, .int n, v] Sh top μ (some (.int i)) Sh top μ 0 0 := by
  refine zMet_of (by decide) (by cases v <;> first | exact Nat.le_of_ble_eq_true rfl | (simp [Value.category] at hv)) fun X hX1 hX2 fx fin => ?_
  subst hX1; subst hX2
  replace fx : zFix X cJ3_checkIndex_8e157 RJ3 (zrm 0 0) 3 := fx
  show zZ K X (zT0 Sh top) μ 0 [(0, .int i), (1, .int n), (2, v)] []
  refine z_iload_n fx (k := 0) (i := 0) rfl rfl dj_pre_0 ?_
  refine z_if_lt fx dj_pre_1 (fun c => absurd c (by rw [h0]; decide)) (fun c => ?_)
  refine z_iload_n fx (k := 0) (i := 0) rfl rfl dj_pre_4 ?_
  refine z_iload_n fx (k := 1) (i := 1) rfl rfl dj_pre_5 ?_
  refine z_icmp_lt fx dj_pre_6 (fun c => ?_) (fun c => absurd c (by rw [h1]; decide))
  refine z_iload_n fx (k := 0) (i := 0) rfl rfl dj_pre_16 ?_
  exact z_ireturn fx fin dj_pre_17
theorem cJ_chk (l : Launch) (D : zDt) (Sh : zSh) (top : Nat) (μ : zM) (i n : Int32) (h0 : clt i 0 = false) (h1 : clt i n = true) : zMet l D K yJ0_checkIndex_df160 cJ0_checkIndex_df160 2 none (zrm 1 30) [.int i, .int n] Sh top μ none Sh top μ 0 0 := by
  refine zMet_of (by decide) (Nat.le_of_ble_eq_true rfl) fun X hX1 hX2 fx fin => ?_
  subst hX1; subst hX2
  replace fx : zFix X cJ0_checkIndex_df160 RJ0 (zrm 1 30) 2 := fx
  show zZ K X (zT0 Sh top) μ 0 [(0, .int i), (1, .int n)] []
  refine z_iload_n fx (k := 0) (i := 0) rfl rfl dj_chk_0 ?_
  refine z_iload_n fx (k := 1) (i := 1) rfl rfl dj_chk_1 ?_
  refine z_sfmt fx dj_chk_2 (fun v hv => ?_)
  refine z_cSr fx (cJ_pre (zLo X) (zDo X) Sh top μ i n v hv h0 h1) mJ_pre (zTb4 34 rfl rfl) rfl rfl rfl rfl dj_chk_5 ?_
  refine z_pop fx rfl dj_chk_8 ?_
  exact z_return fx fin dj_chk_9
theorem zchr_ok : ∀ i, i < 13 → ∀ j, j < zLens.getD i 0 → (((zStrs.getD i []).getD j 0 &&& 255).toUInt32 % 65536).toInt32 = (zStrs.getD i []).getD j 0 ∧ narrow .char (.int ((zStrs.getD i []).getD j 0)) = .int ((zStrs.getD i []).getD j 0) := by decide +kernel
theorem zlen_ok : ∀ i, i < 13 → zLens.getD i 0 = (zStrs.getD i []).length ∧ zLens.getD i 0 < 10 ∧ Int32.ofNat (zLens.getD i 0) >>> ((0 : Int32) &&& 31) = sLen i := by decide +kernel
theorem rI_c {n : Nat} {i : Int32} {j : Nat} (hn : n < 2 ^ 31) (h : rI n i = some j) : clt i 0 = false ∧ clt i (Int32.ofNat n) = true := by
  obtain ⟨h1, h2⟩ := rI_in h
  obtain ⟨k, hk, rfl⟩ := vp_in_of h1 hn
  exact ⟨clt_f (nI_pos (by omega)), clt_t (nI_lt hk hn)⟩
theorem cJ_lch (l : Launch) (D : zDt) (Sh : zSh) (top : Nat) (μ : zM) (i : Nat) (j r : Int32) (hi : i < 13) (hm : sChr i j = some r) : zMet l D K yJ1_charAt_3b067 cJ1_charAt_3b067 2 (some .char) (zrm 2 60) [.ref (zSv D i), .int j] Sh top μ (some (.int r)) Sh top μ 0 0 := by
  obtain ⟨q, h1, h2⟩ := zinv hm
  cases h2
  obtain ⟨z1, z2, -⟩ := zlen_ok i hi
  rw [← z1] at h1
  obtain ⟨c1, c2⟩ := rI_c (by omega) h1
  obtain ⟨g1, g2⟩ := rI_in h1
  obtain ⟨k1, k2⟩ := zchr_ok i hi q (rI_lt h1)
  refine zMet_of (by decide) (Nat.le_of_ble_eq_true rfl) fun X hX1 hX2 fx fin => ?_
  subst hX1; subst hX2
  replace fx : zFix X cJ1_charAt_3b067 RJ1 (zrm 2 60) 2 := fx
  show zZ K X (zT0 Sh top) μ 0 [(0, .ref (zSv (zDo X) i)), (1, .int j)] []
  refine z_iload_n fx (k := 1) (i := 1) rfl rfl dj_lch_0 ?_
  refine z_aload_n fx (k := 0) (i := 0) rfl rfl dj_lch_1 ?_
  refine z_svlen fx hi dj_lch_2 ?_
  refine z_cSv fx (cJ_chk (zLo X) (zDo X) Sh top μ j _ c1 c2) mJ_chk (zTb4 29 rfl rfl) rfl rfl rfl rfl dj_lch_3 ?_
  refine z_aload_n fx (k := 0) (i := 0) rfl rfl dj_lch_6 ?_
  refine z_iload_n fx (k := 1) (i := 1) rfl rfl dj_lch_7 ?_
  refine z_svld fx hi g1 dj_lch_8 ?_
  refine z_sipush fx (v := 255) (by decide) dj_lch_9 ?_
  refine z_iand fx dj_lch_12 ?_
  refine z_i2c fx dj_lch_13 ?_
  refine z_top (congrArg Value.int (show _ = (zStrs.getD i []).getD q 0 by rw [g2]; exact k1)) ?_
  exact z_xreturn fx k2 fin dj_lch_14
theorem cJ_chr (l : Launch) (D : zDt) (Sh : zSh) (top : Nat) (μ : zM) (i : Nat) (j r : Int32) (hi : i < 13) (hm : sChr i j = some r) : zMet l D K yJ0_charAt_5068e cJ0_charAt_5068e 2 (some .char) (zrm 3 90) [.ref (zSa D i), .int j] Sh top μ (some (.int r)) Sh top μ 0 0 := by
  have hn : narrow .char (.int r) = .int r := by
    obtain ⟨q, h1, h2⟩ := zinv hm
    cases h2
    rw [← (zlen_ok i hi).1] at h1
    exact (zchr_ok i hi q (rI_lt h1)).2
  refine zMet_of (by decide) (Nat.le_of_ble_eq_true rfl) fun X hX1 hX2 fx fin => ?_
  subst hX1; subst hX2
  replace fx : zFix X cJ0_charAt_5068e RJ0 (zrm 3 90) 2 := fx
  show zZ K X (zT0 Sh top) μ 0 [(0, .ref (zSa (zDo X) i)), (1, .int j)] []
  refine z_aload_n fx (k := 0) (i := 0) rfl rfl dj_chr_0 ?_
  refine z_callT (lvr := []) fx hi rfl (cJ_lat (zLo X) (zDo X) Sh top μ i hi) mJ_lat (zTb4 22 rfl rfl) rfl rfl rfl rfl dj_chr_1 ?_
  refine z_if_eq fx dj_chr_4 (fun c => absurd c (by decide)) (fun c => ?_)
  refine z_aload_n fx (k := 0) (i := 0) rfl rfl dj_chr_7 ?_
  refine z_sval fx hi dj_chr_8 ?_
  refine z_iload_n fx (k := 1) (i := 1) rfl rfl dj_chr_11 ?_
  refine z_cSr fx (cJ_lch (zLo X) (zDo X) Sh top μ i j r hi hm) mJ_lch (zTb4 26 rfl rfl) rfl rfl rfl rfl dj_chr_12 ?_
  exact z_xreturn fx hn fin dj_chr_15
theorem cJ_len (l : Launch) (D : zDt) (Sh : zSh) (top : Nat) (μ : zM) (i : Nat) (hi : i < 13) : zMet l D K yJ0_length_8abf5 cJ0_length_8abf5 1 (some .int) (zrm 1 30) [.ref (zSa D i)] Sh top μ (some (.int (sLen i))) Sh top μ 0 0 := by
  refine zMet_of (by decide) (Nat.le_of_ble_eq_true rfl) fun X hX1 hX2 fx fin => ?_
  subst hX1; subst hX2
  replace fx : zFix X cJ0_length_8abf5 RJ0 (zrm 1 30) 1 := fx
  show zZ K X (zT0 Sh top) μ 0 [(0, .ref (zSa (zDo X) i))] []
  refine z_aload_n fx (k := 0) (i := 0) rfl rfl dj_len_0 ?_
  refine z_sval fx hi dj_len_1 ?_
  refine z_svlen fx hi dj_len_4 ?_
  refine z_aload_n fx (k := 0) (i := 0) rfl rfl dj_len_5 ?_
  refine z_callT (lvr := [.int (Int32.ofNat (zLens.getD i 0))]) fx hi rfl (cJ_cod (zLo X) (zDo X) Sh top μ i hi) mJ_cod (zTb4 8 rfl rfl) rfl rfl rfl rfl dj_len_6 ?_
  refine z_ishr fx dj_len_9 ?_
  refine z_top (congrArg Value.int (zlen_ok i hi).2.2) ?_
  exact z_ireturn fx fin dj_len_10
theorem z_slen (fx : zFix X cc RX5 rv nv) {x i : Nat} (hi : i < 13) (hl : Cond.methodLink RX5 x yJ0_length_8abf5 ∈ zTb) (hr : (Nat.ble 6 rv.frames && Nat.ble 150 rv.locals) = true) (hcat : Nat.ble (st.map fun v => v.category).sum 8 = true) (d : zd cc pc (.invokevirtual x) 3 pc') (k : zZ K X (zT0 Sh top) μ pc' lv (.int (sLen i) :: st)) : zZ K X (zT0 Sh top) μ pc lv (.ref (zSa (zDo X) i) :: st) := by
  rw [Bool.and_eq_true] at hr
  have r1 := Nat.le_of_ble_eq_true hr.1
  have r2 := Nat.le_of_ble_eq_true hr.2
  refine z_callT (lvr := st) fx hi rfl (cJ_len (zLo X) (zDo X) Sh top μ i hi) mJ_len hl rfl ?_ rfl hcat d k
  simp only [zRb, Bool.and_eq_true]
  exact ⟨⟨⟨rfl, rfl⟩, Nat.ble_eq_true_of_le (by show 1 + 1 ≤ _; omega)⟩, Nat.ble_eq_true_of_le (by show 8 + (1 + 11) + 30 ≤ _; omega)⟩
theorem z_schr (fx : zFix X cc RX5 rv nv) {x i : Nat} {j r : Int32} (hi : i < 13) (hm : sChr i j = some r) (hl : Cond.methodLink RX5 x yJ0_charAt_5068e ∈ zTb) (hr : (Nat.ble 6 rv.frames && Nat.ble 150 rv.locals) = true) (hcat : Nat.ble (st.map fun v => v.category).sum 8 = true) (d : zd cc pc (.invokevirtual x) 3 pc') (k : zZ K X (zT0 Sh top) μ pc' lv (.int r :: st)) : zZ K X (zT0 Sh top) μ pc lv (.int j :: .ref (zSa (zDo X) i) :: st) := by
  rw [Bool.and_eq_true] at hr
  have r1 := Nat.le_of_ble_eq_true hr.1
  have r2 := Nat.le_of_ble_eq_true hr.2
  refine z_callT (lvr := st) fx hi rfl (cJ_chr (zLo X) (zDo X) Sh top μ i j r hi hm) mJ_chr hl rfl ?_ rfl hcat d k
  simp only [zRb, Bool.and_eq_true]
  exact ⟨⟨⟨rfl, rfl⟩, Nat.ble_eq_true_of_le (by show 3 + 1 ≤ _; omega)⟩, Nat.ble_eq_true_of_le (by show 8 + (2 + 11) + 90 ≤ _; omega)⟩
theorem znfw : nativeFrameWords "java/lang/System" "arraycopy" 5 ≤ 40 := by decide
theorem z_copy (fx : zFix X cc own rv nv) {i s0 sn d0 dn : Nat} {sp dp n : Int32} (hl : Cond.methodLink own i arraycopyName ∈ zTb) (hs : T.1 s0 = (1, sn)) (hd : T.1 d0 = (1, dn)) (hm : fJ_copy s0 sn sp d0 dn dp n μ = some μ') (hcat : (st.map fun v => v.category).sum ≤ 8) (hr : 1 ≤ rv.frames ∧ 60 ≤ rv.locals) (dd : zd cc pc (.invokestatic i) 3 pc') (k : zZ K X T μ' pc' lv st) : zZ K X T μ pc lv (.int n :: .int dp :: .ref d0 :: .int sp :: .ref s0 :: st) := by
  obtain ⟨dd, rfl⟩ := dd
  obtain ⟨p, l, e, R, s, m, args, below, meth, c, nL, Q, D⟩ := X
  obtain ⟨hx, hb, hml, hown, hts, hlk, hK, hTx, hbs, hR, hnv⟩ := fx
  have hR : R = rv := hR
  subst hR
  have hA0 : ¬ (sp < 0 ∨ dp < 0 ∨ n < 0 ∨ sn < sp.toNatClampNeg + n.toNatClampNeg ∨ dn < dp.toNatClampNeg + n.toNatClampNeg) := fun q => by rw [fJ_copy, if_pos q] at hm; cases hm
  rw [fJ_copy, if_neg hA0] at hm
  cases hm
  have g1 : ¬ sp < 0 := fun q => hA0 (Or.inl q)
  have g2 : ¬ dp < 0 := fun q => hA0 (Or.inr (Or.inl q))
  have g3 : ¬ n < 0 := fun q => hA0 (Or.inr (Or.inr (Or.inl q)))
  have g4 : sp.toNatClampNeg + n.toNatClampNeg ≤ sn := Nat.not_lt.mp fun q => hA0 (Or.inr (Or.inr (Or.inr (Or.inl q))))
  have g5 : dp.toNatClampNeg + n.toNatClampNeg ≤ dn := Nat.not_lt.mp fun q => hA0 (Or.inr (Or.inr (Or.inr (Or.inr q))))
  have nn : ∀ z : Int32, ¬ z < 0 → z.toInt = (z.toNatClampNeg : Int) := by
    intro z hz
    have hz0 : (0 : Int) ≤ z.toInt := by
      have := Int32.not_lt.mp hz
      simpa using Int32.le_iff_toInt_le.mp this
    show z.toInt = ((z.toInt.toNat : Nat) : Int)
    omega
  intro H locs ls h1 h2 h3 h4 T0 hT X
  have hc0 : H[s0]? = some (vp_cell (D.2.2.1 0) (sn, .inl (gA μ s0))) := zat h1 hs
  have hc1 : H[d0]? = some (vp_cell (D.2.2.1 0) (dn, .inl (gA μ d0))) := zat h1 hd
  obtain ⟨-, k0, hk0, cm0, hkk0⟩ := (hK.2 0 _ rfl).1 sn (fun j => .int (gA μ s0 j))
  obtain ⟨-, k1, hk1, cm1, hkk1⟩ := (hK.2 0 _ rfl).1 dn (fun j => .int (gA μ d0 j))
  obtain ⟨vm', X', step⟩ := X.arraycopy hx hown (hts _ hl) (hts _ (zTb4 105 rfl rfl)) (hts _ (zTb4 104 rfl rfl)) (hts _ (zTb1 19 rfl rfl)) (src := s0) (dst := d0) (cs := vp_cell (D.2.2.1 0) (sn, .inl (gA μ s0))) (cd := vp_cell (D.2.2.1 0) (dn, .inl (gA μ d0))) (srcPos := sp) (destPos := dp) (n := n) (by rw [hT]; exact hc0) (by rw [hT]; exact hc1)
    (fun _ h => by cases h) (fun _ h => by cases h) (fun h => by cases h) (fun h => by cases h) hk0 hk1 hkk0 hkk1 (by simp [refKind]) g1 g2 g3
    (by rw [nn sp g1, nn n g3]; show ¬ _ > ((arrV (D.2.2.1 0) sn (fun j => .int (gA μ s0 j))).slots.size : Int); rw [arrV_size]; omega)
    (by rw [nn dp g2, nn n g3]; show ¬ _ > ((arrV (D.2.2.1 0) dn (fun j => .int (gA μ d0 j))).slots.size : Int); rw [arrV_size]; omega)
    (fun vm₁ _ i hi => by
      have e : (vp_cell (D.2.2.1 0) (sn, .inl (gA μ s0))).slots.getD (sp.toNatClampNeg + i) .null = .int (gA μ s0 (sp.toNatClampNeg + i)) := by
        show (arrV (D.2.2.1 0) sn (fun j => .int (gA μ s0 j))).slots.getD _ _ = _
        rw [Array.getD_eq_getD_getElem?, arrV_read _ _ (by omega)]
        rfl
      refine ⟨?_, ?_⟩
      · rw [e]
        rfl
      · rw [e]
        exact trivial)
    (g := F0 m pc ls (.int n :: .int dp :: .ref d0 :: .int sp :: .ref s0 :: st)) rfl (by rw [hml]; exact h4.1) (rest := st) rfl (by rw [hb]; exact dd) hr.1 (by show 2 * 0 + _ + _ ≤ _; have := hr.2; have := znfw; omega)
  have e1 : copied (vp_cell (D.2.2.1 0) (sn, .inl (gA μ s0))) (vp_cell (D.2.2.1 0) (dn, .inl (gA μ d0))) sp dp n = vp_cell (D.2.2.1 0) (dn, .inl (va_cpy (gA μ s0) (gA μ d0) sp.toNatClampNeg dp.toNatClampNeg n.toNatClampNeg)) := va_copied (fun z => .int z) _ _ _ _ g4
  rw [e1] at X' step
  have hlt : d0 < H.size := (Array.getElem?_eq_some_iff.mp hc1).1
  have hheap : ((T0.setVm vm').setCell d0 (vp_cell (D.2.2.1 0) (dn, .inl (va_cpy (gA μ s0) (gA μ d0) sp.toNatClampNeg dp.toNatClampNeg n.toNatClampNeg)))).heap = H.setIfInBounds d0 (vp_cell (D.2.2.1 0) (dn, .inl (va_cpy (gA μ s0) (gA μ d0) sp.toNatClampNeg dp.toNatClampNeg n.toNatClampNeg))) := by rw [← hT]; rfl
  have oq : ∀ q : Nat, q ≠ d0 → (H.setIfInBounds d0 (vp_cell (D.2.2.1 0) (dn, .inl (va_cpy (gA μ s0) (gA μ d0) sp.toNatClampNeg dp.toNatClampNeg n.toNatClampNeg))))[q]? = H[q]? := fun q hq => by simp [Array.getElem?_setIfInBounds, Ne.symm hq]
  have hAd : zAf D d0 := h1.2.1 d0 (by rw [hd]; exact fun h => by cases h)
  have hH1 : zH D K T.1 (copyA μ s0 d0 sp.toNatClampNeg dp.toNatClampNeg n.toNatClampNeg) (H.setIfInBounds d0 (vp_cell (D.2.2.1 0) (dn, .inl (va_cpy (gA μ s0) (gA μ d0) sp.toNatClampNeg dp.toNatClampNeg n.toNatClampNeg)))) := by
    refine ⟨fun b => ?_, h1.2⟩
    by_cases hba : b = d0
    · subst hba
      rw [hd]
      show (H.setIfInBounds b _)[b]? = some _
      have e2 : (fun j => Value.int (gA (copyA μ s0 b sp.toNatClampNeg dp.toNatClampNeg n.toNatClampNeg) b j)) = fun j => .int (va_cpy (gA μ s0) (gA μ b) sp.toNatClampNeg dp.toNatClampNeg n.toNatClampNeg j) := by
        funext j
        simp [gA, copyA]
      rw [e2]
      simp [Array.getElem?_setIfInBounds, hlt, vp_cell_i]
    · refine zcell.same ((h1.1 b).kept (oq b hba)) (fun _ => rfl) (fun j => ?_) (fun _ => rfl) (fun _ => rfl) (fun _ => rfl) (fun _ => rfl)
      simp [gA, copyA, hba]
  obtain ⟨t, a1, b1⟩ := k _ _ ls hH1 (by rw [Array.size_setIfInBounds]; exact h2) ⟨by rw [Array.size_setIfInBounds]; exact h3.1, fun q g1 g2 => by
      rw [oq q (fun e => g2 (by rw [e]; exact hAd))]
      exact h3.2.1 q g1 g2, fun q hq => by
      rcases List.mem_append.mp hq with h | h
      · exact h3.2.2 q h
      · obtain ⟨z, -, hz⟩ := List.mem_map.mp h
        rw [← hz]
        exact hAd⟩ h4 _ hheap X'
  exact ⟨t, step t a1, b1⟩
theorem rI_nI {n j : Nat} (hj : j < n) (hn : n < 2 ^ 31) : rI n (nI j) = some j := by
  have h : ¬ (nI j < 0 ∨ n ≤ (nI j).toNatClampNeg) := nI_in hj hn
  rw [rI, if_neg h, nI_clamp (by omega)]
theorem cJ_fill (l : Launch) (D : zDt) (Sh : zSh) (top : Nat) (hO : zOK Sh) (a n : Nat) (v : Int32) (μ μ' : zM) (ha : Sh a = (1, n)) (hn : n < 2 ^ 31) (h : fJ_fill a n v μ = some μ') : zMet l D K yJ7_fill_53178 cJ7_fill_53178 4 none (zrm 0 0) [.ref a, .int v] Sh top μ none Sh top μ' 0 0 := by
  cases h
  refine zMet_of (by decide) (Nat.le_of_ble_eq_true rfl) fun X hX1 hX2 fx fin => ?_
  subst hX1; subst hX2
  replace fx : zFix X cJ7_fill_53178 RJ7 (zrm 0 0) 4 := fx
  show zZ K X (zT0 Sh top) μ 0 [(0, .ref a), (1, .int v)] []
  have key : ∀ q j : Nat, n - j = q → j ≤ n → zZ K X (zT0 Sh top) (fillA μ a j v) 5 [(0, .ref a), (1, .int v), (2, .int (nI j)), (3, .int (nI n))] [] := by
    intro q
    induction q with
    | zero =>
      intro j h1 h2
      have e : j = n := by omega
      subst e
      refine z_iload_n fx (k := 2) (i := 2) rfl rfl dj_fil_5 ?_
      refine z_iload_n fx (k := 3) (i := 3) rfl rfl dj_fil_6 ?_
      refine z_icmp_ge fx dj_fil_7 (fun c => z_return fx fin dj_fil_20) (fun c => absurd (of_decide_eq_true c) (nI_nlt (Nat.le_refl _) hn))
    | succ q ih =>
      intro j h1 h2
      have hj : j < n := by omega
      refine z_iload_n fx (k := 2) (i := 2) rfl rfl dj_fil_5 ?_
      refine z_iload_n fx (k := 3) (i := 3) rfl rfl dj_fil_6 ?_
      refine z_icmp_ge fx dj_fil_7 (fun c => absurd (nI_lt hj hn) (of_decide_eq_false c)) (fun c => ?_)
      refine z_aload_n fx (k := 0) (i := 0) rfl rfl dj_fil_10 ?_
      refine z_iload_n fx (k := 2) (i := 2) rfl rfl dj_fil_11 ?_
      refine z_iload_n fx (k := 1) (i := 1) rfl rfl dj_fil_12 ?_
      refine z_iast (μ' := fillA μ a (j + 1) v) fx ha ?_ dj_fil_13 ?_
      · rw [wA, rI_nI hj hn]
        show some _ = some _
        congr 1
        unfold sA fillA
        congr 1
        congr 1
        funext a' j'
        unfold zu
        by_cases e1 : a' = a <;> by_cases e2 : j' = j
        · subst e1; subst e2; simp
        · subst e1
          simp only [e2, and_false, if_false, true_and]
          by_cases e3 : j' < j
          · rw [if_pos e3, if_pos (by omega)]
          · rw [if_neg e3, if_neg (by omega)]
        · simp [e1]
        · simp [e1]
      refine z_iinc fx (i := 2) (x := nI j) (v := nI (j + 1)) rfl (by rw [show Int32.ofInt 1 = 1 from by decide]; exact nI_1 j) rfl (lv' := [(0, .ref a), (1, .int v), (2, .int (nI (j + 1))), (3, .int (nI n))]) rfl rfl dj_fil_14 ?_
      refine z_goto fx dj_fil_17 ?_
      exact ih (j + 1) (by omega) (by omega)
  refine z_iconst fx (v := 0) (by decide) dj_fil_0 ?_
  refine z_istore_n fx (k := 2) (i := 2) rfl rfl (lv' := [(0, .ref a), (1, .int v), (2, .int 0)]) rfl rfl dj_fil_1 ?_
  refine z_aload_n fx (k := 0) (i := 0) rfl rfl dj_fil_2 ?_
  refine z_alen fx ha dj_fil_3 ?_
  refine z_istore_n fx (k := 3) (i := 3) rfl rfl (lv' := [(0, .ref a), (1, .int v), (2, .int 0), (3, .int (nI n))]) rfl rfl dj_fil_4 ?_
  have e0 : fillA μ a 0 v = μ := by
    unfold fillA
    simp
  have := key n 0 (by omega) (by omega)
  rw [e0, nI_0] at this
  exact this
end zJdk
