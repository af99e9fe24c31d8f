/-! RULES: an instruction at pc, by what comes behind it -/
section zRules
variable {K : zKd} {X : zCx} {cc : ByteArray} {own : String} {T : zTt} {μ : zM} {pc pc' tgt : Nat} {lv lv' : List (Nat × Value)} {st : List Value} {rv : Room} {nv : Nat}
theorem z_take (n : Nat) (hn : lv.take n = lv') (k : zZ K X T μ pc lv' st) : zZ K X T μ pc lv st := by
  obtain ⟨p, l, e, R, s, m, args, below, meth, c, nL, Q, D⟩ := X
  intro H locs ls h1 h2 h3 h4
  exact k H locs ls h1 h2 h3 (zlv_sub n hn h4)
theorem z_top {v w : Value} (e : v = w) (k : zZ K X T μ pc lv (w :: st)) : zZ K X T μ pc lv (v :: st) := by
  rw [e]; exact k

theorem z_iconst (fx : zFix X cc own rv nv) {n : Int} {v : Int32} (hv : Int32.ofInt n = v) (d : zd cc pc (.iconst n) 1 pc') (k : zZ K X T μ pc' lv (.int v :: st)) : zZ K X T μ pc lv (st) := by
  obtain ⟨d, rfl⟩ := d
  obtain ⟨p, l, e, R, s, m, args, below, meth, c, nL, Q, D⟩ := X
  obtain ⟨hx, hb, hml, hown, hts, hlk, hK, hTx, hbs, hR, hnv⟩ := fx
  intro H locs ls h1 h2 h3 h4
  exact lv_iconst hx hb d hv (k H locs ls h1 h2 h3 h4)

theorem z_bipush (fx : zFix X cc own rv nv) {n : Int} {v : Int32} (hv : (Int8.ofInt n).toInt32 = v) (d : zd cc pc (.bipush n) 2 pc') (k : zZ K X T μ pc' lv (.int v :: st)) : zZ K X T μ pc lv (st) := by
  obtain ⟨d, rfl⟩ := d
  obtain ⟨p, l, e, R, s, m, args, below, meth, c, nL, Q, D⟩ := X
  obtain ⟨hx, hb, hml, hown, hts, hlk, hK, hTx, hbs, hR, hnv⟩ := fx
  intro H locs ls h1 h2 h3 h4
  exact lv_bipush hx hb d hv (k H locs ls h1 h2 h3 h4)

theorem z_sipush (fx : zFix X cc own rv nv) {n : Int} {v : Int32} (hv : (Int16.ofInt n).toInt32 = v) (d : zd cc pc (.sipush n) 3 pc') (k : zZ K X T μ pc' lv (.int v :: st)) : zZ K X T μ pc lv (st) := by
  obtain ⟨d, rfl⟩ := d
  obtain ⟨p, l, e, R, s, m, args, below, meth, c, nL, Q, D⟩ := X
  obtain ⟨hx, hb, hml, hown, hts, hlk, hK, hTx, hbs, hR, hnv⟩ := fx
  intro H locs ls h1 h2 h3 h4
  exact lv_sipush hx hb d hv (k H locs ls h1 h2 h3 h4)

theorem z_ldc (fx : zFix X cc own rv nv) {i : Nat} {v : Int32} (hw : Cond.constant own i v ∈ zTb) (d : zd cc pc (.ldc i) 2 pc') (k : zZ K X T μ pc' lv (.int v :: st)) : zZ K X T μ pc lv (st) := by
  obtain ⟨d, rfl⟩ := d
  obtain ⟨p, l, e, R, s, m, args, below, meth, c, nL, Q, D⟩ := X
  obtain ⟨hx, hb, hml, hown, hts, hlk, hK, hTx, hbs, hR, hnv⟩ := fx
  intro H locs ls h1 h2 h3 h4
  exact lv_ldc hx hb hown (hts _ hw) d (k H locs ls h1 h2 h3 h4)

theorem z_ldcw (fx : zFix X cc own rv nv) {i : Nat} {v : Int32} (hw : Cond.constant own i v ∈ zTb) (d : zd cc pc (.ldc_w i) 3 pc') (k : zZ K X T μ pc' lv (.int v :: st)) : zZ K X T μ pc lv (st) := by
  obtain ⟨d, rfl⟩ := d
  obtain ⟨p, l, e, R, s, m, args, below, meth, c, nL, Q, D⟩ := X
  obtain ⟨hx, hb, hml, hown, hts, hlk, hK, hTx, hbs, hR, hnv⟩ := fx
  intro H locs ls h1 h2 h3 h4
  exact lv_ldcw hx hb hown (hts _ hw) d (k H locs ls h1 h2 h3 h4)

theorem z_ldc2 (fx : zFix X cc own rv nv) {i : Nat} {v : Int64} (hw : Cond.constantLong own i v ∈ zTb) (d : zd cc pc (.ldc2_w i) 3 pc') (k : zZ K X T μ pc' lv (.long v :: st)) : zZ K X T μ pc lv (st) := by
  obtain ⟨d, rfl⟩ := d
  obtain ⟨p, l, e, R, s, m, args, below, meth, c, nL, Q, D⟩ := X
  obtain ⟨hx, hb, hml, hown, hts, hlk, hK, hTx, hbs, hR, hnv⟩ := fx
  intro H locs ls h1 h2 h3 h4
  exact lv_ldc2 hx hb hown (hts _ hw) d (k H locs ls h1 h2 h3 h4)

theorem z_iload_n (fx : zFix X cc own rv nv) {k : Fin 4} {i : Nat} {x : Int32} (hi : (k : Nat) = i) (hl : zget lv i = some (.int x)) (d : zd cc pc (.iload_n k) 1 pc') (k : zZ K X T μ pc' lv (.int x :: st)) : zZ K X T μ pc lv (st) := by
  obtain ⟨d, rfl⟩ := d
  obtain ⟨p, l, e, R, s, m, args, below, meth, c, nL, Q, D⟩ := X
  obtain ⟨hx, hb, hml, hown, hts, hlk, hK, hTx, hbs, hR, hnv⟩ := fx
  intro H locs ls h1 h2 h3 h4
  exact lv_iload_n hx hb d hi (zget_at h4 hl) (k H locs ls h1 h2 h3 h4)

theorem z_iload (fx : zFix X cc own rv nv) {i : Nat} {x : Int32} (hl : zget lv i = some (.int x)) (d : zd cc pc (.iload i) 2 pc') (k : zZ K X T μ pc' lv (.int x :: st)) : zZ K X T μ pc lv (st) := by
  obtain ⟨d, rfl⟩ := d
  obtain ⟨p, l, e, R, s, m, args, below, meth, c, nL, Q, D⟩ := X
  obtain ⟨hx, hb, hml, hown, hts, hlk, hK, hTx, hbs, hR, hnv⟩ := fx
  intro H locs ls h1 h2 h3 h4
  exact lv_iload hx hb d (zget_at h4 hl) (k H locs ls h1 h2 h3 h4)

theorem z_aload_n (fx : zFix X cc own rv nv) {k : Fin 4} {i : Nat} {x : Nat} (hi : (k : Nat) = i) (hl : zget lv i = some (.ref x)) (d : zd cc pc (.aload_n k) 1 pc') (k : zZ K X T μ pc' lv (.ref x :: st)) : zZ K X T μ pc lv (st) := by
  obtain ⟨d, rfl⟩ := d
  obtain ⟨p, l, e, R, s, m, args, below, meth, c, nL, Q, D⟩ := X
  obtain ⟨hx, hb, hml, hown, hts, hlk, hK, hTx, hbs, hR, hnv⟩ := fx
  intro H locs ls h1 h2 h3 h4
  exact lv_aload_n hx hb d hi (zget_at h4 hl) (k H locs ls h1 h2 h3 h4)

theorem z_aload (fx : zFix X cc own rv nv) {i : Nat} {x : Nat} (hl : zget lv i = some (.ref x)) (d : zd cc pc (.aload i) 2 pc') (k : zZ K X T μ pc' lv (.ref x :: st)) : zZ K X T μ pc lv (st) := by
  obtain ⟨d, rfl⟩ := d
  obtain ⟨p, l, e, R, s, m, args, below, meth, c, nL, Q, D⟩ := X
  obtain ⟨hx, hb, hml, hown, hts, hlk, hK, hTx, hbs, hR, hnv⟩ := fx
  intro H locs ls h1 h2 h3 h4
  exact lv_aload hx hb d (zget_at h4 hl) (k H locs ls h1 h2 h3 h4)

theorem z_lload_n (fx : zFix X cc own rv nv) {k : Fin 4} {i : Nat} {x : Int64} (hi : (k : Nat) = i) (hl : zget lv i = some (.long x)) (d : zd cc pc (.lload_n k) 1 pc') (k : zZ K X T μ pc' lv (.long x :: st)) : zZ K X T μ pc lv (st) := by
  obtain ⟨d, rfl⟩ := d
  obtain ⟨p, l, e, R, s, m, args, below, meth, c, nL, Q, D⟩ := X
  obtain ⟨hx, hb, hml, hown, hts, hlk, hK, hTx, hbs, hR, hnv⟩ := fx
  intro H locs ls h1 h2 h3 h4
  exact lv_lload_n hx hb d hi (zget_at h4 hl) (k H locs ls h1 h2 h3 h4)

theorem z_iadd (fx : zFix X cc own rv nv) {x y : Int32} (d : zd cc pc .iadd 1 pc') (k : zZ K X T μ pc' lv (.int (x + y) :: st)) : zZ K X T μ pc lv (.int y :: .int x :: st) := by
  obtain ⟨d, rfl⟩ := d
  obtain ⟨p, l, e, R, s, m, args, below, meth, c, nL, Q, D⟩ := X
  obtain ⟨hx, hb, hml, hown, hts, hlk, hK, hTx, hbs, hR, hnv⟩ := fx
  intro H locs ls h1 h2 h3 h4
  exact lv_iadd hx hb d (k H locs ls h1 h2 h3 h4)

theorem z_isub (fx : zFix X cc own rv nv) {x y : Int32} (d : zd cc pc .isub 1 pc') (k : zZ K X T μ pc' lv (.int (x - y) :: st)) : zZ K X T μ pc lv (.int y :: .int x :: st) := by
  obtain ⟨d, rfl⟩ := d
  obtain ⟨p, l, e, R, s, m, args, below, meth, c, nL, Q, D⟩ := X
  obtain ⟨hx, hb, hml, hown, hts, hlk, hK, hTx, hbs, hR, hnv⟩ := fx
  intro H locs ls h1 h2 h3 h4
  exact lv_isub hx hb d (k H locs ls h1 h2 h3 h4)

theorem z_imul (fx : zFix X cc own rv nv) {x y : Int32} (d : zd cc pc .imul 1 pc') (k : zZ K X T μ pc' lv (.int (x * y) :: st)) : zZ K X T μ pc lv (.int y :: .int x :: st) := by
  obtain ⟨d, rfl⟩ := d
  obtain ⟨p, l, e, R, s, m, args, below, meth, c, nL, Q, D⟩ := X
  obtain ⟨hx, hb, hml, hown, hts, hlk, hK, hTx, hbs, hR, hnv⟩ := fx
  intro H locs ls h1 h2 h3 h4
  exact lv_imul hx hb d (k H locs ls h1 h2 h3 h4)

theorem z_iand (fx : zFix X cc own rv nv) {x y : Int32} (d : zd cc pc .iand 1 pc') (k : zZ K X T μ pc' lv (.int (x &&& y) :: st)) : zZ K X T μ pc lv (.int y :: .int x :: st) := by
  obtain ⟨d, rfl⟩ := d
  obtain ⟨p, l, e, R, s, m, args, below, meth, c, nL, Q, D⟩ := X
  obtain ⟨hx, hb, hml, hown, hts, hlk, hK, hTx, hbs, hR, hnv⟩ := fx
  intro H locs ls h1 h2 h3 h4
  exact lv_iand hx hb d (k H locs ls h1 h2 h3 h4)

theorem z_ior (fx : zFix X cc own rv nv) {x y : Int32} (d : zd cc pc .ior 1 pc') (k : zZ K X T μ pc' lv (.int (x ||| y) :: st)) : zZ K X T μ pc lv (.int y :: .int x :: st) := by
  obtain ⟨d, rfl⟩ := d
  obtain ⟨p, l, e, R, s, m, args, below, meth, c, nL, Q, D⟩ := X
  obtain ⟨hx, hb, hml, hown, hts, hlk, hK, hTx, hbs, hR, hnv⟩ := fx
  intro H locs ls h1 h2 h3 h4
  exact lv_ior hx hb d (k H locs ls h1 h2 h3 h4)

theorem z_ixor (fx : zFix X cc own rv nv) {x y : Int32} (d : zd cc pc .ixor 1 pc') (k : zZ K X T μ pc' lv (.int (x ^^^ y) :: st)) : zZ K X T μ pc lv (.int y :: .int x :: st) := by
  obtain ⟨d, rfl⟩ := d
  obtain ⟨p, l, e, R, s, m, args, below, meth, c, nL, Q, D⟩ := X
  obtain ⟨hx, hb, hml, hown, hts, hlk, hK, hTx, hbs, hR, hnv⟩ := fx
  intro H locs ls h1 h2 h3 h4
  exact lv_ixor hx hb d (k H locs ls h1 h2 h3 h4)

theorem z_ishr (fx : zFix X cc own rv nv) {x y : Int32} (d : zd cc pc .ishr 1 pc') (k : zZ K X T μ pc' lv (.int (x >>> (y &&& 31)) :: st)) : zZ K X T μ pc lv (.int y :: .int x :: st) := by
  obtain ⟨d, rfl⟩ := d
  obtain ⟨p, l, e, R, s, m, args, below, meth, c, nL, Q, D⟩ := X
  obtain ⟨hx, hb, hml, hown, hts, hlk, hK, hTx, hbs, hR, hnv⟩ := fx
  intro H locs ls h1 h2 h3 h4
  exact lv_ishr hx hb d (k H locs ls h1 h2 h3 h4)

theorem z_ladd (fx : zFix X cc own rv nv) {x y : Int64} (d : zd cc pc .ladd 1 pc') (k : zZ K X T μ pc' lv (.long (x + y) :: st)) : zZ K X T μ pc lv (.long y :: .long x :: st) := by
  obtain ⟨d, rfl⟩ := d
  obtain ⟨p, l, e, R, s, m, args, below, meth, c, nL, Q, D⟩ := X
  obtain ⟨hx, hb, hml, hown, hts, hlk, hK, hTx, hbs, hR, hnv⟩ := fx
  intro H locs ls h1 h2 h3 h4
  exact lv_ladd hx hb d (k H locs ls h1 h2 h3 h4)

theorem z_lmul (fx : zFix X cc own rv nv) {x y : Int64} (d : zd cc pc .lmul 1 pc') (k : zZ K X T μ pc' lv (.long (x * y) :: st)) : zZ K X T μ pc lv (.long y :: .long x :: st) := by
  obtain ⟨d, rfl⟩ := d
  obtain ⟨p, l, e, R, s, m, args, below, meth, c, nL, Q, D⟩ := X
  obtain ⟨hx, hb, hml, hown, hts, hlk, hK, hTx, hbs, hR, hnv⟩ := fx
  intro H locs ls h1 h2 h3 h4
  exact lv_lmul hx hb d (k H locs ls h1 h2 h3 h4)

theorem z_land (fx : zFix X cc own rv nv) {x y : Int64} (d : zd cc pc .land 1 pc') (k : zZ K X T μ pc' lv (.long (x &&& y) :: st)) : zZ K X T μ pc lv (.long y :: .long x :: st) := by
  obtain ⟨d, rfl⟩ := d
  obtain ⟨p, l, e, R, s, m, args, below, meth, c, nL, Q, D⟩ := X
  obtain ⟨hx, hb, hml, hown, hts, hlk, hK, hTx, hbs, hR, hnv⟩ := fx
  intro H locs ls h1 h2 h3 h4
  exact lv_land hx hb d (k H locs ls h1 h2 h3 h4)

theorem z_idiv (fx : zFix X cc own rv nv) {x y z : Int32} (hz : iDiv x y = some z) (d : zd cc pc .idiv 1 pc') (k : zZ K X T μ pc' lv (.int z :: st)) : zZ K X T μ pc lv (.int y :: .int x :: st) := by
  obtain ⟨d, rfl⟩ := d
  obtain ⟨p, l, e, R, s, m, args, below, meth, c, nL, Q, D⟩ := X
  obtain ⟨hx, hb, hml, hown, hts, hlk, hK, hTx, hbs, hR, hnv⟩ := fx
  intro H locs ls h1 h2 h3 h4
  exact (by have hy : ¬ y = 0 := fun q => by rw [iDiv, if_pos q] at hz; cases hz
            rw [iDiv, if_neg hy] at hz; cases hz; exact lv_idiv hx hb d hy (k H locs ls h1 h2 h3 h4))

theorem z_irem (fx : zFix X cc own rv nv) {x y z : Int32} (hz : iRem x y = some z) (d : zd cc pc .irem 1 pc') (k : zZ K X T μ pc' lv (.int z :: st)) : zZ K X T μ pc lv (.int y :: .int x :: st) := by
  obtain ⟨d, rfl⟩ := d
  obtain ⟨p, l, e, R, s, m, args, below, meth, c, nL, Q, D⟩ := X
  obtain ⟨hx, hb, hml, hown, hts, hlk, hK, hTx, hbs, hR, hnv⟩ := fx
  intro H locs ls h1 h2 h3 h4
  exact (by have hy : ¬ y = 0 := fun q => by rw [iRem, if_pos q] at hz; cases hz
            rw [iRem, if_neg hy] at hz; cases hz; exact lv_irem hx hb d hy (k H locs ls h1 h2 h3 h4))

theorem z_lrem (fx : zFix X cc own rv nv) {x y z : Int64} (hz : lRem x y = some z) (d : zd cc pc .lrem 1 pc') (k : zZ K X T μ pc' lv (.long z :: st)) : zZ K X T μ pc lv (.long y :: .long x :: st) := by
  obtain ⟨d, rfl⟩ := d
  obtain ⟨p, l, e, R, s, m, args, below, meth, c, nL, Q, D⟩ := X
  obtain ⟨hx, hb, hml, hown, hts, hlk, hK, hTx, hbs, hR, hnv⟩ := fx
  intro H locs ls h1 h2 h3 h4
  exact (by have hy : ¬ y = 0 := fun q => by rw [lRem, if_pos q] at hz; cases hz
            rw [lRem, if_neg hy] at hz; cases hz; exact lv_lrem hx hb d hy (k H locs ls h1 h2 h3 h4))

theorem z_i2l (fx : zFix X cc own rv nv) {x : Int32} (d : zd cc pc .i2l 1 pc') (k : zZ K X T μ pc' lv (.long x.toInt64 :: st)) : zZ K X T μ pc lv (.int x :: st) := by
  obtain ⟨d, rfl⟩ := d
  obtain ⟨p, l, e, R, s, m, args, below, meth, c, nL, Q, D⟩ := X
  obtain ⟨hx, hb, hml, hown, hts, hlk, hK, hTx, hbs, hR, hnv⟩ := fx
  intro H locs ls h1 h2 h3 h4
  exact lv_i2l hx hb d rfl (k H locs ls h1 h2 h3 h4)

theorem z_l2i (fx : zFix X cc own rv nv) {x : Int64} (d : zd cc pc .l2i 1 pc') (k : zZ K X T μ pc' lv (.int x.toInt32 :: st)) : zZ K X T μ pc lv (.long x :: st) := by
  obtain ⟨d, rfl⟩ := d
  obtain ⟨p, l, e, R, s, m, args, below, meth, c, nL, Q, D⟩ := X
  obtain ⟨hx, hb, hml, hown, hts, hlk, hK, hTx, hbs, hR, hnv⟩ := fx
  intro H locs ls h1 h2 h3 h4
  exact lv_l2i hx hb d rfl (k H locs ls h1 h2 h3 h4)

theorem z_i2c (fx : zFix X cc own rv nv) {x : Int32} (d : zd cc pc .i2c 1 pc') (k : zZ K X T μ pc' lv (.int (x.toUInt32 % 65536).toInt32 :: st)) : zZ K X T μ pc lv (.int x :: st) := by
  obtain ⟨d, rfl⟩ := d
  obtain ⟨p, l, e, R, s, m, args, below, meth, c, nL, Q, D⟩ := X
  obtain ⟨hx, hb, hml, hown, hts, hlk, hK, hTx, hbs, hR, hnv⟩ := fx
  intro H locs ls h1 h2 h3 h4
  exact lv_i2c hx hb d rfl (k H locs ls h1 h2 h3 h4)
theorem z_dup (fx : zFix X cc own rv nv) {v : Value} (hv : v.category = 1) (d : zd cc pc .dup 1 pc') (k : zZ K X T μ pc' lv (v :: v :: st)) : zZ K X T μ pc lv (v :: st) := by
  obtain ⟨d, rfl⟩ := d
  obtain ⟨p, l, e, R, s, m, args, below, meth, c, nL, Q, D⟩ := X
  obtain ⟨hx, hb, hml, hown, hts, hlk, hK, hTx, hbs, hR, hnv⟩ := fx
  intro H locs ls h1 h2 h3 h4
  exact lv_dup hx hb d hv (k H locs ls h1 h2 h3 h4)

theorem z_dup2 (fx : zFix X cc own rv nv) {v w : Value} (hv : v.category = 1) (hw : w.category = 1) (d : zd cc pc .dup2 1 pc') (k : zZ K X T μ pc' lv (v :: w :: v :: w :: st)) : zZ K X T μ pc lv (v :: w :: st) := by
  obtain ⟨d, rfl⟩ := d
  obtain ⟨p, l, e, R, s, m, args, below, meth, c, nL, Q, D⟩ := X
  obtain ⟨hx, hb, hml, hown, hts, hlk, hK, hTx, hbs, hR, hnv⟩ := fx
  intro H locs ls h1 h2 h3 h4
  exact lv_dup2_11 hx hb d hv hw (k H locs ls h1 h2 h3 h4)

theorem z_pop (fx : zFix X cc own rv nv) {v : Value} (hv : v.category = 1) (d : zd cc pc .pop 1 pc') (k : zZ K X T μ pc' lv (st)) : zZ K X T μ pc lv (v :: st) := by
  obtain ⟨d, rfl⟩ := d
  obtain ⟨p, l, e, R, s, m, args, below, meth, c, nL, Q, D⟩ := X
  obtain ⟨hx, hb, hml, hown, hts, hlk, hK, hTx, hbs, hR, hnv⟩ := fx
  intro H locs ls h1 h2 h3 h4
  exact lv_pop hx hb d hv (k H locs ls h1 h2 h3 h4)

theorem z_istore_n (fx : zFix X cc own rv nv) {k : Fin 4} {i : Nat} {x : Int32} (hi : (k : Nat) = i) (hc : zone lv = true) (hl : zset lv i (.int x) = lv') (hn : Nat.ble (i + 1) nv = true) (d : zd cc pc (.istore_n k) 1 pc') (k : zZ K X T μ pc' lv' st) : zZ K X T μ pc lv (.int x :: st) := by
  obtain ⟨d, rfl⟩ := d
  obtain ⟨p, l, e, R, s, m, args, below, meth, c, nL, Q, D⟩ := X
  obtain ⟨hx, hb, hml, hown, hts, hlk, hK, hTx, hbs, hR, hnv⟩ := fx
  intro H locs ls h1 h2 h3 h4
  exact lv_istore_n hx hb d hi h4 (by rw [hnv]; exact Nat.le_of_ble_eq_true hn) rfl (fun ls' hl' => k H locs ls' h1 h2 h3 (hl ▸ zset_has hc hl'))

theorem z_istore (fx : zFix X cc own rv nv) {i : Nat} {x : Int32} (hc : zone lv = true) (hl : zset lv i (.int x) = lv') (hn : Nat.ble (i + 1) nv = true) (d : zd cc pc (.istore i) 2 pc') (k : zZ K X T μ pc' lv' st) : zZ K X T μ pc lv (.int x :: st) := by
  obtain ⟨d, rfl⟩ := d
  obtain ⟨p, l, e, R, s, m, args, below, meth, c, nL, Q, D⟩ := X
  obtain ⟨hx, hb, hml, hown, hts, hlk, hK, hTx, hbs, hR, hnv⟩ := fx
  intro H locs ls h1 h2 h3 h4
  exact lv_istore hx hb d h4 (by rw [hnv]; exact Nat.le_of_ble_eq_true hn) rfl (fun ls' hl' => k H locs ls' h1 h2 h3 (hl ▸ zset_has hc hl'))

theorem z_astore_n (fx : zFix X cc own rv nv) {k : Fin 4} {i : Nat} {x : Nat} (hi : (k : Nat) = i) (hc : zone lv = true) (hl : zset lv i (.ref x) = lv') (hn : Nat.ble (i + 1) nv = true) (d : zd cc pc (.astore_n k) 1 pc') (k : zZ K X T μ pc' lv' st) : zZ K X T μ pc lv (.ref x :: st) := by
  obtain ⟨d, rfl⟩ := d
  obtain ⟨p, l, e, R, s, m, args, below, meth, c, nL, Q, D⟩ := X
  obtain ⟨hx, hb, hml, hown, hts, hlk, hK, hTx, hbs, hR, hnv⟩ := fx
  intro H locs ls h1 h2 h3 h4
  exact lv_astore_n hx hb d hi h4 (by rw [hnv]; exact Nat.le_of_ble_eq_true hn) rfl (fun ls' hl' => k H locs ls' h1 h2 h3 (hl ▸ zset_has hc hl'))

theorem z_astore (fx : zFix X cc own rv nv) {i : Nat} {x : Nat} (hc : zone lv = true) (hl : zset lv i (.ref x) = lv') (hn : Nat.ble (i + 1) nv = true) (d : zd cc pc (.astore i) 2 pc') (k : zZ K X T μ pc' lv' st) : zZ K X T μ pc lv (.ref x :: st) := by
  obtain ⟨d, rfl⟩ := d
  obtain ⟨p, l, e, R, s, m, args, below, meth, c, nL, Q, D⟩ := X
  obtain ⟨hx, hb, hml, hown, hts, hlk, hK, hTx, hbs, hR, hnv⟩ := fx
  intro H locs ls h1 h2 h3 h4
  exact lv_astore hx hb d h4 (by rw [hnv]; exact Nat.le_of_ble_eq_true hn) rfl (fun ls' hl' => k H locs ls' h1 h2 h3 (hl ▸ zset_has hc hl'))

theorem z_iinc (fx : zFix X cc own rv nv) {i : Nat} {n : Int} {x v : Int32} (hg : zget lv i = some (.int x)) (hv : x + Int32.ofInt n = v) (hc : zone lv = true) (hl : zset lv i (.int v) = lv') (hn : Nat.ble (i + 1) nv = true) (d : zd cc pc (.iinc i n) 3 pc') (k : zZ K X T μ pc' lv' st) : zZ K X T μ pc lv st := by
  obtain ⟨d, rfl⟩ := d
  obtain ⟨p, l, e, R, s, m, args, below, meth, c, nL, Q, D⟩ := X
  obtain ⟨hx, hb, hml, hown, hts, hlk, hK, hTx, hbs, hR, hnv⟩ := fx
  intro H locs ls h1 h2 h3 h4
  have hat := zget_at h4 hg
  have h5 : lv_has ls nL ((i, .int x) :: lv) := ⟨h4.1, h4.2.1, fun q hq => by
    rcases List.mem_cons.mp hq with q1 | q1
    · rw [q1]; exact hat
    · exact h4.2.2 q q1⟩
  refine lv_iinc (k := 0) hx hb d h5 rfl hv (by rw [hnv]; exact Nat.le_of_ble_eq_true hn) rfl (fun ls' hl' => k H locs ls' h1 h2 h3 (hl ▸ zset_has hc ?_))
  refine ⟨hl'.1, hl'.2.1, fun q hq => hl'.2.2 q ?_⟩
  rcases List.mem_cons.mp hq with q1 | q1
  · rw [q1]; exact List.mem_cons_self
  · obtain ⟨q2, q3⟩ := List.mem_filter.mp q1
    exact List.mem_cons_of_mem _ (List.mem_filter.mpr ⟨List.mem_cons_of_mem _ q2, q3⟩)

theorem z_icmp_eq (fx : zFix X cc own rv nv) {x y : Int32} {off : Int} (d : zj cc pc (.if_icmp .eq off) off pc' tgt) (kt : ceq x y = true → zZ K X T μ tgt lv st) (kf : ceq x y = false → zZ K X T μ pc' lv st) : zZ K X T μ pc lv (.int y :: .int x :: st) := by
  obtain ⟨d, rfl, ht⟩ := d
  obtain ⟨p, l, e, R, s, m, args, below, meth, c, nL, Q, D⟩ := X
  obtain ⟨hx, hb, hml, hown, hts, hlk, hK, hTx, hbs, hR, hnv⟩ := fx
  intro H locs ls h1 h2 h3 h4
  exact lv_icmp_eq hx hb d ht (fun q => kt (ceq_t q) H locs ls h1 h2 h3 h4) (fun q => kf (ceq_f q) H locs ls h1 h2 h3 h4)

theorem z_icmp_ne (fx : zFix X cc own rv nv) {x y : Int32} {off : Int} (d : zj cc pc (.if_icmp .ne off) off pc' tgt) (kt : ceq x y = false → zZ K X T μ tgt lv st) (kf : ceq x y = true → zZ K X T μ pc' lv st) : zZ K X T μ pc lv (.int y :: .int x :: st) := by
  obtain ⟨d, rfl, ht⟩ := d
  obtain ⟨p, l, e, R, s, m, args, below, meth, c, nL, Q, D⟩ := X
  obtain ⟨hx, hb, hml, hown, hts, hlk, hK, hTx, hbs, hR, hnv⟩ := fx
  intro H locs ls h1 h2 h3 h4
  exact lv_icmp_ne hx hb d ht (fun q => kt (ceq_f q) H locs ls h1 h2 h3 h4) (fun q => kf (ceq_t q) H locs ls h1 h2 h3 h4)

theorem z_icmp_lt (fx : zFix X cc own rv nv) {x y : Int32} {off : Int} (d : zj cc pc (.if_icmp .lt off) off pc' tgt) (kt : clt x y = true → zZ K X T μ tgt lv st) (kf : clt x y = false → zZ K X T μ pc' lv st) : zZ K X T μ pc lv (.int y :: .int x :: st) := by
  obtain ⟨d, rfl, ht⟩ := d
  obtain ⟨p, l, e, R, s, m, args, below, meth, c, nL, Q, D⟩ := X
  obtain ⟨hx, hb, hml, hown, hts, hlk, hK, hTx, hbs, hR, hnv⟩ := fx
  intro H locs ls h1 h2 h3 h4
  exact lv_icmp_lt hx hb d ht (fun q => kt (clt_t q) H locs ls h1 h2 h3 h4) (fun q => kf (clt_f q) H locs ls h1 h2 h3 h4)

theorem z_icmp_ge (fx : zFix X cc own rv nv) {x y : Int32} {off : Int} (d : zj cc pc (.if_icmp .ge off) off pc' tgt) (kt : clt x y = false → zZ K X T μ tgt lv st) (kf : clt x y = true → zZ K X T μ pc' lv st) : zZ K X T μ pc lv (.int y :: .int x :: st) := by
  obtain ⟨d, rfl, ht⟩ := d
  obtain ⟨p, l, e, R, s, m, args, below, meth, c, nL, Q, D⟩ := X
  obtain ⟨hx, hb, hml, hown, hts, hlk, hK, hTx, hbs, hR, hnv⟩ := fx
  intro H locs ls h1 h2 h3 h4
  exact lv_icmp_ge hx hb d ht (fun q => kt (clt_f (Int32.not_lt.mpr q)) H locs ls h1 h2 h3 h4) (fun q => kf (clt_t (Int32.not_le.mp q)) H locs ls h1 h2 h3 h4)

theorem z_icmp_gt (fx : zFix X cc own rv nv) {x y : Int32} {off : Int} (d : zj cc pc (.if_icmp .gt off) off pc' tgt) (kt : clt y x = true → zZ K X T μ tgt lv st) (kf : clt y x = false → zZ K X T μ pc' lv st) : zZ K X T μ pc lv (.int y :: .int x :: st) := by
  obtain ⟨d, rfl, ht⟩ := d
  obtain ⟨p, l, e, R, s, m, args, below, meth, c, nL, Q, D⟩ := X
  obtain ⟨hx, hb, hml, hown, hts, hlk, hK, hTx, hbs, hR, hnv⟩ := fx
  intro H locs ls h1 h2 h3 h4
  exact lv_icmp_gt hx hb d ht (fun q => kt (clt_t q) H locs ls h1 h2 h3 h4) (fun q => kf (clt_f q) H locs ls h1 h2 h3 h4)

theorem z_icmp_le (fx : zFix X cc own rv nv) {x y : Int32} {off : Int} (d : zj cc pc (.if_icmp .le off) off pc' tgt) (kt : clt y x = false → zZ K X T μ tgt lv st) (kf : clt y x = true → zZ K X T μ pc' lv st) : zZ K X T μ pc lv (.int y :: .int x :: st) := by
  obtain ⟨d, rfl, ht⟩ := d
  obtain ⟨p, l, e, R, s, m, args, below, meth, c, nL, Q, D⟩ := X
  obtain ⟨hx, hb, hml, hown, hts, hlk, hK, hTx, hbs, hR, hnv⟩ := fx
  intro H locs ls h1 h2 h3 h4
  exact lv_icmp_le hx hb d ht (fun q => kt (clt_f (Int32.not_lt.mpr q)) H locs ls h1 h2 h3 h4) (fun q => kf (clt_t (Int32.not_le.mp q)) H locs ls h1 h2 h3 h4)

theorem z_if_eq (fx : zFix X cc own rv nv) {x : Int32} {off : Int} (d : zj cc pc (.ifCond .eq off) off pc' tgt) (kt : ceq x 0 = true → zZ K X T μ tgt lv st) (kf : ceq x 0 = false → zZ K X T μ pc' lv st) : zZ K X T μ pc lv (.int x :: st) := by
  obtain ⟨d, rfl, ht⟩ := d
  obtain ⟨p, l, e, R, s, m, args, below, meth, c, nL, Q, D⟩ := X
  obtain ⟨hx, hb, hml, hown, hts, hlk, hK, hTx, hbs, hR, hnv⟩ := fx
  intro H locs ls h1 h2 h3 h4
  exact lv_if_eq hx hb d ht (fun q => kt (ceq_t q) H locs ls h1 h2 h3 h4) (fun q => kf (ceq_f q) H locs ls h1 h2 h3 h4)

theorem z_if_ne (fx : zFix X cc own rv nv) {x : Int32} {off : Int} (d : zj cc pc (.ifCond .ne off) off pc' tgt) (kt : ceq x 0 = false → zZ K X T μ tgt lv st) (kf : ceq x 0 = true → zZ K X T μ pc' lv st) : zZ K X T μ pc lv (.int x :: st) := by
  obtain ⟨d, rfl, ht⟩ := d
  obtain ⟨p, l, e, R, s, m, args, below, meth, c, nL, Q, D⟩ := X
  obtain ⟨hx, hb, hml, hown, hts, hlk, hK, hTx, hbs, hR, hnv⟩ := fx
  intro H locs ls h1 h2 h3 h4
  exact lv_if_ne hx hb d ht (fun q => kt (ceq_f q) H locs ls h1 h2 h3 h4) (fun q => kf (ceq_t q) H locs ls h1 h2 h3 h4)

theorem z_if_lt (fx : zFix X cc own rv nv) {x : Int32} {off : Int} (d : zj cc pc (.ifCond .lt off) off pc' tgt) (kt : clt x 0 = true → zZ K X T μ tgt lv st) (kf : clt x 0 = false → zZ K X T μ pc' lv st) : zZ K X T μ pc lv (.int x :: st) := by
  obtain ⟨d, rfl, ht⟩ := d
  obtain ⟨p, l, e, R, s, m, args, below, meth, c, nL, Q, D⟩ := X
  obtain ⟨hx, hb, hml, hown, hts, hlk, hK, hTx, hbs, hR, hnv⟩ := fx
  intro H locs ls h1 h2 h3 h4
  exact lv_if_lt hx hb d ht (fun q => kt (clt_t q) H locs ls h1 h2 h3 h4) (fun q => kf (clt_f q) H locs ls h1 h2 h3 h4)

theorem z_if_ge (fx : zFix X cc own rv nv) {x : Int32} {off : Int} (d : zj cc pc (.ifCond .ge off) off pc' tgt) (kt : clt x 0 = false → zZ K X T μ tgt lv st) (kf : clt x 0 = true → zZ K X T μ pc' lv st) : zZ K X T μ pc lv (.int x :: st) := by
  obtain ⟨d, rfl, ht⟩ := d
  obtain ⟨p, l, e, R, s, m, args, below, meth, c, nL, Q, D⟩ := X
  obtain ⟨hx, hb, hml, hown, hts, hlk, hK, hTx, hbs, hR, hnv⟩ := fx
  intro H locs ls h1 h2 h3 h4
  exact lv_if_ge hx hb d ht (fun q => kt (clt_f (Int32.not_lt.mpr q)) H locs ls h1 h2 h3 h4) (fun q => kf (clt_t (Int32.not_le.mp q)) H locs ls h1 h2 h3 h4)

theorem z_if_gt (fx : zFix X cc own rv nv) {x : Int32} {off : Int} (d : zj cc pc (.ifCond .gt off) off pc' tgt) (kt : clt 0 x = true → zZ K X T μ tgt lv st) (kf : clt 0 x = false → zZ K X T μ pc' lv st) : zZ K X T μ pc lv (.int x :: st) := by
  obtain ⟨d, rfl, ht⟩ := d
  obtain ⟨p, l, e, R, s, m, args, below, meth, c, nL, Q, D⟩ := X
  obtain ⟨hx, hb, hml, hown, hts, hlk, hK, hTx, hbs, hR, hnv⟩ := fx
  intro H locs ls h1 h2 h3 h4
  exact lv_if_gt hx hb d ht (fun q => kt (clt_t q) H locs ls h1 h2 h3 h4) (fun q => kf (clt_f q) H locs ls h1 h2 h3 h4)

theorem z_if_le (fx : zFix X cc own rv nv) {x : Int32} {off : Int} (d : zj cc pc (.ifCond .le off) off pc' tgt) (kt : clt 0 x = false → zZ K X T μ tgt lv st) (kf : clt 0 x = true → zZ K X T μ pc' lv st) : zZ K X T μ pc lv (.int x :: st) := by
  obtain ⟨d, rfl, ht⟩ := d
  obtain ⟨p, l, e, R, s, m, args, below, meth, c, nL, Q, D⟩ := X
  obtain ⟨hx, hb, hml, hown, hts, hlk, hK, hTx, hbs, hR, hnv⟩ := fx
  intro H locs ls h1 h2 h3 h4
  exact lv_if_le hx hb d ht (fun q => kt (clt_f (Int32.not_lt.mpr q)) H locs ls h1 h2 h3 h4) (fun q => kf (clt_t (Int32.not_le.mp q)) H locs ls h1 h2 h3 h4)

theorem z_ifb_eq (fx : zFix X cc own rv nv) {b : Bool} {off : Int} (d : zj cc pc (.ifCond .eq off) off pc' tgt) (kt : b = false → zZ K X T μ tgt lv st) (kf : b = true → zZ K X T μ pc' lv st) : zZ K X T μ pc lv (.int (bI b) :: st) :=
  z_if_eq fx d (fun q => kt (by rw [bI_eq] at q; cases b <;> first | rfl | cases q)) (fun q => kf (by rw [bI_eq] at q; cases b <;> first | rfl | cases q))

theorem z_ifb_ne (fx : zFix X cc own rv nv) {b : Bool} {off : Int} (d : zj cc pc (.ifCond .ne off) off pc' tgt) (kt : b = true → zZ K X T μ tgt lv st) (kf : b = false → zZ K X T μ pc' lv st) : zZ K X T μ pc lv (.int (bI b) :: st) :=
  z_if_ne fx d (fun q => kt (by rw [bI_eq] at q; cases b <;> first | rfl | cases q)) (fun q => kf (by rw [bI_eq] at q; cases b <;> first | rfl | cases q))

theorem z_goto (fx : zFix X cc own rv nv) {off : Int} (d : zj cc pc (.goto off) off pc' tgt) (k : zZ K X T μ tgt lv st) : zZ K X T μ pc lv st := by
  obtain ⟨d, rfl, ht⟩ := d
  obtain ⟨p, l, e, R, s, m, args, below, meth, c, nL, Q, D⟩ := X
  obtain ⟨hx, hb, hml, hown, hts, hlk, hK, hTx, hbs, hR, hnv⟩ := fx
  intro H locs ls h1 h2 h3 h4
  exact lv_goto hx hb d ht (k H locs ls h1 h2 h3 h4)

end zRules
