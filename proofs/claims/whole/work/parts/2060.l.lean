theorem z_lstore_n {K : zKd} {X : zCx} {cc : ByteArray} {own : String} {T : zTt} {μ : zM} {pc pc' : Nat} {lv lv' : List (Nat × Value)} {st : List Value} {rv : Room} {nv : Nat} (fx : zFix X cc own rv nv) {k : Fin 4} {i : Nat} {x : Int64} (hi : (k : Nat) = i) (hc : (zone lv && lv.all fun q => Nat.ble (q.1 + 1) i) = true) (hl : zset lv i (.long x) = lv') (hn : Nat.ble (i + 2) nv = true) (d : zd cc pc (.lstore_n k) 1 pc') (kk : zZ K X T μ pc' lv' st) : zZ K X T μ pc lv (.long x :: st) := by
  obtain ⟨d, rfl⟩ := d
  obtain ⟨p, l, e, R, s, m, args, below, meth, c, nL, Q, D⟩ := X
  obtain ⟨hx, hb, hml, hown, hts, hlk, hK, hTx, hbs, hR, hnv⟩ := fx
  intro H locs ls h1 h2 h3 h4
  rw [Bool.and_eq_true] at hc
  refine lv_lstore_n hx hb d hi h4 (by have := Nat.le_of_ble_eq_true hn; rw [hnv]; omega) rfl (fun ls' hl' => kk H locs ls' h1 h2 h3 (hl ▸ ⟨hl'.1, hl'.2.1, fun q hq => ?_⟩))
  rcases zset_mem hq with h5 | ⟨h5, h6⟩
  · exact hl'.2.2 q (by rw [h5]; exact List.mem_cons_self)
  · refine hl'.2.2 q (List.mem_cons_of_mem _ (List.mem_filter.mpr ⟨h5, ?_⟩))
    have h7 : q.2.category = 1 := Nat.eq_of_beq_eq_true (List.all_eq_true.mp hc.1 q h5)
    have h8 : q.1 + 1 ≤ i := Nat.le_of_ble_eq_true (List.all_eq_true.mp hc.2 q h5)
    have h9 : ¬ q.1 = i + 1 := by omega
    simp [h6, h7, h9]
