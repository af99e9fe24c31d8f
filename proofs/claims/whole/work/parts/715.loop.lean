/-! THE LAW: its loop -/
section zLz
variable {X : zCx} {b L x i cs ss top : Nat} {xs : Nat → Int32} {Shx Shm : zSh} {μ ν : zM}
theorem l6 : ∀ L, L < 6 → ∀ i, i < 6 → clt (nI L - 6) (nI i) = true := by decide
theorem l_lt (hL : L ≤ 3072) (hi : i ≤ L) : clt (nI L - 6) (nI i) = decide (L < i + 6) := by
  by_cases c : 6 ≤ L
  · rw [show (6 : Int32) = nI 6 from rfl, nI_sub c, clt_nI (by omega) (by omega)]
    by_cases d : L < i + 6
    · rw [decide_eq_true d, decide_eq_true (by omega)]
    · rw [decide_eq_false d, decide_eq_false (by omega)]
  · rw [l6 L (by omega) i (by omega), decide_eq_true (by omega)]
theorem l_sw {v : Int32} {offs : Array Int} {k : Nat} (hk : k < 44) (h : v.toInt = k) : zsw 1373 0 43 offs v = offs.getD k 1373 := by
  unfold zsw
  rw [h, if_neg (by omega)]
  exact congrArg (fun q => offs.getD q 1373) (by omega)
/-- one call of the script -/
theorem law_body (C : LC X b L xs x) (hi : i + 6 ≤ L) (I : LJ X x Shx Shm top μ ν cs ss) (kk : ∀ (B : Bool) (μ' ν' : zM), JR x (x + 573) (topN B top) μ' ν' → lZ X (lP (zDo X) x (shN B Shx top) Shm (topN B top) μ' ν') (cs + 261) (ss + 1976) 1406 (lvL b x i) []) : lZ X (lP (zDo X) x Shx Shm top μ ν) cs ss 27 (lvL b x i) [] := by
  have C0 := C
  obtain ⟨fx, hX, hb, hs, hA, hL⟩ := C
  refine l_aload_n fx (k := 0) (i := 0) rfl rfl ⟨dL_27, rfl⟩ ?_
  refine l_iload_n fx (k := 3) (i := 3) rfl rfl ⟨dL_28, rfl⟩ ?_
  refine l_sld fx hX (by omega) (fun y => absurd ((hA b).mp y) (by omega)) (j := i) rfl (by omega) (by omega) ⟨dL_29, rfl⟩ ?_
  refine l_bipush fx (v := 63) (by decide) ⟨dL_30, rfl⟩ ?_
  refine l_iand fx ⟨dL_32, rfl⟩ ?_
  generalize xs i &&& 63 = v
  by_cases c : v.toInt < 0 ∨ 43 < v.toInt
  · refine l_table fx (tgt := 1406) dL_33 ⟨zsw_out c, rfl⟩ rfl ?_
    exact l_widen (by have := I.2.2.2.2; omega) (by omega) (kk false μ ν I.1)
  · obtain ⟨k, hk, hv⟩ : ∃ k : Nat, k < 44 ∧ v.toInt = k := ⟨v.toInt.toNat, by omega, by omega⟩
    match k, hk, hv with
    | 0, hk, hv => exact l_table fx (tgt := 224) dL_33 ⟨(l_sw hk hv).trans (show _ = (191 : Int) from rfl), rfl⟩ rfl (k_feed C0 hi I kk)
    | 1, hk, hv => exact l_table fx (tgt := 287) dL_33 ⟨(l_sw hk hv).trans (show _ = (254 : Int) from rfl), rfl⟩ rfl (k_end C0 hi I kk)
    | 2, hk, hv => exact l_table fx (tgt := 310) dL_33 ⟨(l_sw hk hv).trans (show _ = (277 : Int) from rfl), rfl⟩ rfl (k_net C0 hi I kk)
    | 3, hk, hv => exact l_table fx (tgt := 323) dL_33 ⟨(l_sw hk hv).trans (show _ = (290 : Int) from rfl), rfl⟩ rfl (k_fault C0 hi I kk)
    | 4, hk, hv => exact l_table fx (tgt := 346) dL_33 ⟨(l_sw hk hv).trans (show _ = (313 : Int) from rfl), rfl⟩ rfl (k_has C0 hi I kk)
    | 5, hk, hv => exact l_table fx (tgt := 369) dL_33 ⟨(l_sw hk hv).trans (show _ = (336 : Int) from rfl), rfl⟩ rfl (k_letter C0 hi I kk)
    | 6, hk, hv => exact l_table fx (tgt := 412) dL_33 ⟨(l_sw hk hv).trans (show _ = (379 : Int) from rfl), rfl⟩ rfl (k_link C0 hi I kk)
    | 7, hk, hv => exact l_table fx (tgt := 445) dL_33 ⟨(l_sw hk hv).trans (show _ = (412 : Int) from rfl), rfl⟩ rfl (k_bridge C0 hi I kk)
    | 8, hk, hv => exact l_table fx (tgt := 478) dL_33 ⟨(l_sw hk hv).trans (show _ = (445 : Int) from rfl), rfl⟩ rfl (k_port C0 hi I kk)
    | 9, hk, hv => exact l_table fx (tgt := 521) dL_33 ⟨(l_sw hk hv).trans (show _ = (488 : Int) from rfl), rfl⟩ rfl (k_held C0 hi I kk)
    | 10, hk, hv => exact l_table fx (tgt := 564) dL_33 ⟨(l_sw hk hv).trans (show _ = (531 : Int) from rfl), rfl⟩ rfl (k_address C0 hi I kk)
    | 11, hk, hv => exact l_table fx (tgt := 607) dL_33 ⟨(l_sw hk hv).trans (show _ = (574 : Int) from rfl), rfl⟩ rfl (k_message C0 hi I kk)
    | 12, hk, hv => exact l_table fx (tgt := 640) dL_33 ⟨(l_sw hk hv).trans (show _ = (607 : Int) from rfl), rfl⟩ rfl (k_kept C0 hi I kk)
    | 13, hk, hv => exact l_table fx (tgt := 673) dL_33 ⟨(l_sw hk hv).trans (show _ = (640 : Int) from rfl), rfl⟩ rfl (k_due C0 hi I kk)
    | 14, hk, hv => exact l_table fx (tgt := 706) dL_33 ⟨(l_sw hk hv).trans (show _ = (673 : Int) from rfl), rfl⟩ rfl (k_role C0 hi I kk)
    | 15, hk, hv => exact l_table fx (tgt := 739) dL_33 ⟨(l_sw hk hv).trans (show _ = (706 : Int) from rfl), rfl⟩ rfl (k_rests C0 hi I kk)
    | 16, hk, hv => exact l_table fx (tgt := 752) dL_33 ⟨(l_sw hk hv).trans (show _ = (719 : Int) from rfl), rfl⟩ rfl (k_when C0 hi I kk)
    | 17, hk, hv => exact l_table fx (tgt := 765) dL_33 ⟨(l_sw hk hv).trans (show _ = (732 : Int) from rfl), rfl⟩ rfl (k_ring C0 hi I kk)
    | 18, hk, hv => exact l_table fx (tgt := 788) dL_33 ⟨(l_sw hk hv).trans (show _ = (755 : Int) from rfl), rfl⟩ rfl (k_rings C0 hi I kk)
    | 19, hk, hv => exact l_table fx (tgt := 811) dL_33 ⟨(l_sw hk hv).trans (show _ = (778 : Int) from rfl), rfl⟩ rfl (k_joined C0 hi I kk)
    | 20, hk, hv => exact l_table fx (tgt := 844) dL_33 ⟨(l_sw hk hv).trans (show _ = (811 : Int) from rfl), rfl⟩ rfl (k_leads C0 hi I kk)
    | 21, hk, hv => exact l_table fx (tgt := 877) dL_33 ⟨(l_sw hk hv).trans (show _ = (844 : Int) from rfl), rfl⟩ rfl (k_heal C0 hi I kk)
    | 22, hk, hv => exact l_table fx (tgt := 900) dL_33 ⟨(l_sw hk hv).trans (show _ = (867 : Int) from rfl), rfl⟩ rfl (k_worst C0 hi I kk)
    | 23, hk, hv => exact l_table fx (tgt := 923) dL_33 ⟨(l_sw hk hv).trans (show _ = (890 : Int) from rfl), rfl⟩ rfl (k_see C0 hi I kk)
    | 24, hk, hv => exact l_table fx (tgt := 946) dL_33 ⟨(l_sw hk hv).trans (show _ = (913 : Int) from rfl), rfl⟩ rfl (k_suspect C0 hi I kk)
    | 25, hk, hv => exact l_table fx (tgt := 969) dL_33 ⟨(l_sw hk hv).trans (show _ = (936 : Int) from rfl), rfl⟩ rfl (k_tells C0 hi I kk)
    | 26, hk, hv => exact l_table fx (tgt := 992) dL_33 ⟨(l_sw hk hv).trans (show _ = (959 : Int) from rfl), rfl⟩ rfl (k_centre C0 hi I kk)
    | 27, hk, hv => exact l_table fx (tgt := 1015) dL_33 ⟨(l_sw hk hv).trans (show _ = (982 : Int) from rfl), rfl⟩ rfl (k_run C0 hi I kk)
    | 28, hk, hv => exact l_table fx (tgt := 1038) dL_33 ⟨(l_sw hk hv).trans (show _ = (1005 : Int) from rfl), rfl⟩ rfl (k_cut C0 hi I kk)
    | 29, hk, hv => exact l_table fx (tgt := 1061) dL_33 ⟨(l_sw hk hv).trans (show _ = (1028 : Int) from rfl), rfl⟩ rfl (k_mend C0 hi I kk)
    | 30, hk, hv => exact l_table fx (tgt := 1084) dL_33 ⟨(l_sw hk hv).trans (show _ = (1051 : Int) from rfl), rfl⟩ rfl (k_stop C0 hi I kk)
    | 31, hk, hv => exact l_table fx (tgt := 1107) dL_33 ⟨(l_sw hk hv).trans (show _ = (1074 : Int) from rfl), rfl⟩ rfl (k_start C0 hi I kk)
    | 32, hk, hv => exact l_table fx (tgt := 1130) dL_33 ⟨(l_sw hk hv).trans (show _ = (1097 : Int) from rfl), rfl⟩ rfl (k_prio C0 hi I kk)
    | 33, hk, hv => exact l_table fx (tgt := 1163) dL_33 ⟨(l_sw hk hv).trans (show _ = (1130 : Int) from rfl), rfl⟩ rfl (k_turn C0 hi I kk)
    | 34, hk, hv => exact l_table fx (tgt := 1186) dL_33 ⟨(l_sw hk hv).trans (show _ = (1153 : Int) from rfl), rfl⟩ rfl (k_move C0 hi I kk)
    | 35, hk, hv => exact l_table fx (tgt := 1219) dL_33 ⟨(l_sw hk hv).trans (show _ = (1186 : Int) from rfl), rfl⟩ rfl (k_send C0 hi I kk)
    | 36, hk, hv => exact l_table fx (tgt := 1252) dL_33 ⟨(l_sw hk hv).trans (show _ = (1219 : Int) from rfl), rfl⟩ rfl (k_frame C0 hi I kk)
    | 37, hk, hv => exact l_table fx (tgt := 1275) dL_33 ⟨(l_sw hk hv).trans (show _ = (1242 : Int) from rfl), rfl⟩ rfl (k_chance C0 hi I kk)
    | 38, hk, hv => exact l_table fx (tgt := 1298) dL_33 ⟨(l_sw hk hv).trans (show _ = (1265 : Int) from rfl), rfl⟩ rfl (k_undo C0 hi I kk)
    | 39, hk, hv => exact l_table fx (tgt := 1311) dL_33 ⟨(l_sw hk hv).trans (show _ = (1278 : Int) from rfl), rfl⟩ rfl (k_seed C0 hi I kk)
    | 40, hk, hv => exact l_table fx (tgt := 1334) dL_33 ⟨(l_sw hk hv).trans (show _ = (1301 : Int) from rfl), rfl⟩ rfl (k_image C0 hi I kk)
    | 41, hk, hv => exact l_table fx (tgt := 1347) dL_33 ⟨(l_sw hk hv).trans (show _ = (1314 : Int) from rfl), rfl⟩ rfl (k_octet C0 hi I kk)
    | 42, hk, hv => exact l_table fx (tgt := 1370) dL_33 ⟨(l_sw hk hv).trans (show _ = (1337 : Int) from rfl), rfl⟩ rfl (k_on C0 hi I kk)
    | 43, hk, hv => exact l_table fx (tgt := 1383) dL_33 ⟨(l_sw hk hv).trans (show _ = (1350 : Int) from rfl), rfl⟩ rfl (k_status C0 hi I kk)
    | k + 44, hk, _ => exact absurd hk (by omega)
theorem law_loop (C : LC X b L xs x) (hE : ∀ (P : Heap → Prop) (cs ss : Nat) (lv : List (Nat × Value)), cs ≤ 600000 → ss ≤ 7302250 → lZ X P cs ss 1412 lv []) (hO : zOK Shm) (hm : (Shm (x + 573)).1 = 19) : ∀ (n i cs ss top : Nat) (Shx : zSh) (μ ν : zM), i ≤ L → L < i + 6 * n → cs + 261 * n ≤ 600000 → ss + 1976 * n ≤ 7302250 → JR x (x + 573) top μ ν → zPk (zDa (zDo X) (Ax x)) Shx top x → lZ X (lP (zDo X) x Shx Shm top μ ν) cs ss 18 (lvL b x i) [] := by
  have C0 := C
  obtain ⟨fx, hX, hb, hs, hA, hL⟩ := C
  intro n
  induction n with
  | zero =>
    intro i cs ss top Shx μ ν h1 h2
    omega
  | succ n ih =>
    intro i cs ss top Shx μ ν h1 h2 h3 h4 j hk
    have h5 : cs + 261 ≤ 600000 := Nat.le_trans (Nat.add_le_add_left (Nat.le_mul_of_pos_right 261 (Nat.succ_pos n)) cs) h3
    have h6 : ss + 1976 ≤ 7302250 := Nat.le_trans (Nat.add_le_add_left (Nat.le_mul_of_pos_right 1976 (Nat.succ_pos n)) ss) h4
    have h7 : cs + 261 + 261 * n ≤ 600000 := Nat.le_trans (by omega : cs + 261 + 261 * n ≤ cs + 261 * (n + 1)) h3
    have h8 : ss + 1976 + 1976 * n ≤ 7302250 := Nat.le_trans (by omega : ss + 1976 + 1976 * n ≤ ss + 1976 * (n + 1)) h4
    refine l_iload_n fx (k := 3) (i := 3) rfl rfl ⟨dL_18, rfl⟩ ?_
    refine l_aload_n fx (k := 0) (i := 0) rfl rfl ⟨dL_19, rfl⟩ ?_
    refine l_slen fx hX (by omega) (fun y => absurd ((hA b).mp y) (by omega)) ⟨dL_20, rfl⟩ ?_
    refine l_bipush fx (v := 6) (by decide) ⟨dL_21, rfl⟩ ?_
    refine l_isub fx ⟨dL_23, rfl⟩ ?_
    refine l_icmp_gt fx (tgt := 1412) ⟨dL_24, rfl, rfl⟩ (fun _ => hE _ _ _ _ (Nat.le_trans (Nat.le_add_right cs 261) h5) (Nat.le_trans (Nat.le_add_right ss 1976) h6)) (fun c => ?_)
    rw [l_lt hL h1] at c
    have hi : i + 6 ≤ L := by have := of_decide_eq_false c; omega
    refine law_body C0 hi ⟨j, hk, hO, hm, h5, h6⟩ (fun B μ' ν' j' => ?_)
    refine l_iinc fx (i := 3) (n := 6) (x := nI i) (v := nI (i + 6)) (lv' := lvL b x (i + 6)) rfl (by rw [show Int32.ofInt 6 = nI 6 from by decide, nI_add]) rfl rfl rfl ⟨dL_1406, rfl⟩ ?_
    refine l_goto fx (tgt := 18) ⟨dL_1409, rfl, rfl⟩ ?_
    exact ih (i + 6) (cs + 261) (ss + 1976) _ _ _ _ (by omega) (by omega) h7 h8 j' (hk.nx B)
end zLz
theorem law_end {p : Program} {l : Launch} {e : Env} {s : State} {m : MethodId} {below : List Frame} {meth : Method} {c : Code} {b : Nat} {D : zDt} (hx : p.tables.exec = Jvm.exec) (hb : c.code = code) (hr : meth.sig.returnType = ret) (hlocks : meth.locks = false) (hA : ∀ q, zAf D q → s.heap.size ≤ q) (P : Heap → Prop) (cs ss : Nat) (lv : List (Nat × Value)) (h1 : cs ≤ 600000) (h2 : ss ≤ 7302250) : lZ (p, l, e, room_1, s, m, #[Value.ref b], below, meth, c, 4, lw_Z below #[Value.ref b] s, D) P cs ss 1412 lv [] := by
  intro H locs ls g1 g2 g3
  refine lv_iconst (v := 1) hx hb dL_1412 (by decide) ?_
  refine va_forget (fun q hq => hA _ (g2.2.2 q hq)) ?_
  refine W.widen (k := 600000) (n := 7302250) h1 h2 ?_
  exact lw_ret hx hb hr hlocks dL_1413
