/-! THE LAW: what the tables and the start say -/
theorem lt1 {w : Cond} (i : Nat) (h : tables_1_1[i]? = some w) : w ∈ lw_tbl := List.mem_append_right _ (show w ∈ tables_1 from List.mem_append_left _ (List.mem_of_getElem? h))
theorem lt2 {w : Cond} (i : Nat) (h : tables_1_2[i]? = some w) : w ∈ lw_tbl := List.mem_append_right _ (show w ∈ tables_1 from List.mem_append_right _ (List.mem_append_left _ (List.mem_of_getElem? h)))
theorem lt3 {w : Cond} (i : Nat) (h : tables_1_3[i]? = some w) : w ∈ lw_tbl := List.mem_append_right _ (show w ∈ tables_1 from List.mem_append_right _ (List.mem_append_right _ (List.mem_append_left _ (List.mem_of_getElem? h))))
theorem lt4 {w : Cond} (i : Nat) (h : tables_1_4[i]? = some w) : w ∈ lw_tbl := List.mem_append_right _ (show w ∈ tables_1 from List.mem_append_right _ (List.mem_append_right _ (List.mem_append_right _ (List.mem_append_left _ (List.mem_of_getElem? h)))))
theorem lt5 {w : Cond} (i : Nat) (h : tables_1_5[i]? = some w) : w ∈ lw_tbl := List.mem_append_right _ (show w ∈ tables_1 from List.mem_append_right _ (List.mem_append_right _ (List.mem_append_right _ (List.mem_append_right _ (List.mem_append_left _ (List.mem_of_getElem? h))))))
theorem lt6 {w : Cond} (i : Nat) (h : tables_1_6[i]? = some w) : w ∈ lw_tbl := List.mem_append_right _ (show w ∈ tables_1 from List.mem_append_right _ (List.mem_append_right _ (List.mem_append_right _ (List.mem_append_right _ (List.mem_append_right _ (List.mem_append_left _ (List.mem_of_getElem? h)))))))
theorem lt7 {w : Cond} (i : Nat) (h : tables_1_7[i]? = some w) : w ∈ lw_tbl := List.mem_append_right _ (show w ∈ tables_1 from List.mem_append_right _ (List.mem_append_right _ (List.mem_append_right _ (List.mem_append_right _ (List.mem_append_right _ (List.mem_append_right _ (List.mem_append_left _ (List.mem_of_getElem? h))))))))
theorem lt8 {w : Cond} (i : Nat) (h : tables_1_8[i]? = some w) : w ∈ lw_tbl := List.mem_append_right _ (show w ∈ tables_1 from List.mem_append_right _ (List.mem_append_right _ (List.mem_append_right _ (List.mem_append_right _ (List.mem_append_right _ (List.mem_append_right _ (List.mem_append_right _ (List.mem_append_left _ (List.mem_of_getElem? h)))))))))
theorem lt9 {w : Cond} (i : Nat) (h : tables_1_9[i]? = some w) : w ∈ lw_tbl := List.mem_append_right _ (show w ∈ tables_1 from List.mem_append_right _ (List.mem_append_right _ (List.mem_append_right _ (List.mem_append_right _ (List.mem_append_right _ (List.mem_append_right _ (List.mem_append_right _ (List.mem_append_right _ (List.mem_append_left _ (List.mem_of_getElem? h))))))))))
def tmS (i : Nat) : Term := .string "WaveBridges$Reader" (26 + 2 * i)
theorem kn_cls {args : Array Value} {s : State} (hz : ∀ w ∈ zTb, w.before args s = true) (hts : ∀ w ∈ lw_tbl, w.before args s = true) : ∀ k : Nat, ∃ q : ClassId × (Nat → Nat), ∀ r, zcl[k]? = some r → u_Kn s r.1 r.2.1 r.2.2 q.1 q.2 := by
  intro k
  match k with
  | 0 =>
    obtain ⟨c, i, h⟩ := u_known hz zws_0 (hts _ (lt2 130 rfl))
    exact ⟨(c, i), fun r hr => by cases hr; exact h⟩
  | 1 =>
    obtain ⟨c, i, h⟩ := u_known hz zws_1 (hts _ (lt1 32 rfl))
    exact ⟨(c, i), fun r hr => by cases hr; exact h⟩
  | 2 =>
    obtain ⟨c, i, h⟩ := u_known hz zws_2 (hts _ (lt1 128 rfl))
    exact ⟨(c, i), fun r hr => by cases hr; exact h⟩
  | 3 =>
    obtain ⟨c, i, h⟩ := u_known hz zws_3 (hts _ (lt3 13 rfl))
    exact ⟨(c, i), fun r hr => by cases hr; exact h⟩
  | 4 =>
    obtain ⟨c, i, h⟩ := u_known hz zws_4 (hts _ (lt2 181 rfl))
    exact ⟨(c, i), fun r hr => by cases hr; exact h⟩
  | 5 =>
    obtain ⟨c, i, h⟩ := u_known hz zws_5 (hts _ (lt2 79 rfl))
    exact ⟨(c, i), fun r hr => by cases hr; exact h⟩
  | 6 =>
    obtain ⟨c, i, h⟩ := u_known hz zws_6 (hts _ (lt1 115 rfl))
    exact ⟨(c, i), fun r hr => by cases hr; exact h⟩
  | 7 =>
    obtain ⟨c, i, h⟩ := u_known hz zws_7 (hts _ (lt1 160 rfl))
    exact ⟨(c, i), fun r hr => by cases hr; exact h⟩
  | 8 =>
    obtain ⟨c, i, h⟩ := u_known hz zws_8 (hts _ (lt2 117 rfl))
    exact ⟨(c, i), fun r hr => by cases hr; exact h⟩
  | 9 =>
    obtain ⟨c, i, h⟩ := u_known hz zws_9 (hts _ (lt1 38 rfl))
    exact ⟨(c, i), fun r hr => by cases hr; exact h⟩
  | 10 =>
    obtain ⟨c, i, h⟩ := u_known hz zws_10 (hts _ (lt1 202 rfl))
    exact ⟨(c, i), fun r hr => by cases hr; exact h⟩
  | 11 =>
    obtain ⟨c, i, h⟩ := u_known hz zws_11 (hts _ (lt1 22 rfl))
    exact ⟨(c, i), fun r hr => by cases hr; exact h⟩
  | 12 =>
    obtain ⟨c, i, h⟩ := u_known hz zws_12 (hts _ (lt7 29 rfl))
    exact ⟨(c, i), fun r hr => by cases hr; exact h⟩
  | k + 13 =>
    obtain ⟨c, i, h⟩ := u_known hz zws_0 (hts _ (lt2 130 rfl))
    exact ⟨(c, i), fun r hr => by
      have : zcl[k + 13]? = none := List.getElem?_eq_none (by show 13 ≤ k + 13; omega)
      rw [this] at hr; cases hr⟩
theorem kn_prim {args : Array Value} {s : State} {ty : FieldType} (hp : ∀ C, ty ≠ .object C) (h : (Cond.arrayClass ty).before args s = true) : ∃ c : ClassId, ArrOfT s c ty ∧ va_RA s c ty := by
  obtain ⟨c, k, comp, h1, h2, h3⟩ := Cond.arrayClass_spec h
  refine ⟨c, fun n z => ⟨(fun k h => by cases h), k, h2, comp, h3⟩, ?_⟩
  cases ty with
  | object C => exact absurd rfl (hp C)
  | _ => exact h1
theorem kn_obj {args : Array Value} {s : State} {C : String} (h : (Cond.arrayOver (.object C)).before args s = true) : ∃ c : ClassId, ArrOfT s c (.object C) ∧ va_RA s c (.object C) := by
  obtain ⟨comp, c, k, h1, h2, h3, h4, h5⟩ := Cond.arrayOver_spec h
  exact ⟨c, fun n z => ⟨(fun k h => by cases h), k, h3, comp, h4⟩, k, comp, h3, h4, h1, h5⟩
def lty : List FieldType := [.int, .boolean, .object RX0, .object RX4, .object RX3, .object RX8]
theorem kn_arr {args : Array Value} {s : State} (hts : ∀ w ∈ lw_tbl, w.before args s = true) : ∀ k : Nat, ∃ c : ClassId, ∀ ty, lty[k]? = some ty → ArrOfT s c ty ∧ va_RA s c ty := by
  intro k
  match k with
  | 0 =>
    obtain ⟨c, h⟩ := kn_prim (ty := .int) (fun C y => by cases y) (hts _ (lt1 75 rfl))
    exact ⟨c, fun ty ht => by cases ht; exact h⟩
  | 1 =>
    obtain ⟨c, h⟩ := kn_prim (ty := .boolean) (fun C y => by cases y) (hts _ (lt2 77 rfl))
    exact ⟨c, fun ty ht => by cases ht; exact h⟩
  | 2 =>
    obtain ⟨c, h⟩ := kn_obj (hts _ (lt2 123 rfl))
    exact ⟨c, fun ty ht => by cases ht; exact h⟩
  | 3 =>
    obtain ⟨c, h⟩ := kn_obj (hts _ (lt2 125 rfl))
    exact ⟨c, fun ty ht => by cases ht; exact h⟩
  | 4 =>
    obtain ⟨c, h⟩ := kn_obj (hts _ (lt2 127 rfl))
    exact ⟨c, fun ty ht => by cases ht; exact h⟩
  | 5 =>
    obtain ⟨c, h⟩ := kn_obj (hts _ (lt1 30 rfl))
    exact ⟨c, fun ty ht => by cases ht; exact h⟩
  | k + 6 =>
    obtain ⟨c, h⟩ := kn_prim (ty := .int) (fun C y => by cases y) (hts _ (lt1 75 rfl))
    exact ⟨c, fun ty ht => by
      have : lty[k + 6]? = none := List.getElem?_eq_none (by show 6 ≤ k + 6; omega)
      rw [this] at ht; cases ht⟩

theorem kn_str {args : Array Value} {s : State} (hts : ∀ w ∈ lw_tbl, w.before args s = true) : ∀ i, i < 13 → (Cond.stringRef RX5 (26 + 2 * i) (zTxt.getD i "")).before args s = true := by
  intro i hi
  match i, hi with
  | 0, _ => exact hts _ (lt3 231 rfl)
  | 1, _ => exact hts _ (lt4 64 rfl)
  | 2, _ => exact hts _ (lt4 73 rfl)
  | 3, _ => exact hts _ (lt4 74 rfl)
  | 4, _ => exact hts _ (lt4 90 rfl)
  | 5, _ => exact hts _ (lt4 91 rfl)
  | 6, _ => exact hts _ (lt4 92 rfl)
  | 7, _ => exact hts _ (lt4 93 rfl)
  | 8, _ => exact hts _ (lt4 94 rfl)
  | 9, _ => exact hts _ (lt4 95 rfl)
  | 10, _ => exact hts _ (lt4 96 rfl)
  | 11, _ => exact hts _ (lt4 97 rfl)
  | 12, _ => exact hts _ (lt4 98 rfl)
  | i + 13, hi => exact absurd hi (by omega)
theorem kn_nest : ∀ q ∈ zNest, Cond.methodLinkNest q.1 q.2.1 q.2.2 "WaveBridges" ∈ lw_tbl := List.forall_mem_cons.mpr ⟨(lt1 33 rfl), List.forall_mem_cons.mpr ⟨(lt1 39 rfl), List.forall_mem_cons.mpr ⟨(lt1 116 rfl), List.forall_mem_cons.mpr ⟨(lt1 129 rfl), List.forall_mem_cons.mpr ⟨(lt1 161 rfl), List.forall_mem_cons.mpr ⟨(lt1 203 rfl), List.forall_mem_cons.mpr ⟨(lt2 129 rfl), List.forall_mem_cons.mpr ⟨(lt2 136 rfl), List.forall_mem_cons.mpr ⟨(lt2 182 rfl), List.forall_mem_cons.mpr ⟨(lt2 187 rfl), List.forall_mem_cons.mpr ⟨(lt3 14 rfl), List.forall_mem_cons.mpr ⟨(lt3 19 rfl), fun q hq => by cases hq⟩⟩⟩⟩⟩⟩⟩⟩⟩⟩⟩⟩
theorem kn_ao : ∀ C ∈ zAO, Cond.arrayOver (.object C) ∈ lw_tbl := List.forall_mem_cons.mpr ⟨(lt2 123 rfl), List.forall_mem_cons.mpr ⟨(lt2 125 rfl), List.forall_mem_cons.mpr ⟨(lt2 127 rfl), List.forall_mem_cons.mpr ⟨(lt1 30 rfl), fun q hq => by cases hq⟩⟩⟩⟩
theorem kn_ne : ∀ i, i < 13 → ∀ j, j < 13 → i < j → Cond.not (Cond.eq (tmS i) (tmS j)) ∈ flatC (Jvm.Cond.and given_1 narrow_1) := by decide +kernel
theorem kn_tx {args : Array Value} {s : State} {D : zDt} (hts : ∀ w ∈ lw_tbl, w.before args s = true) (hg : (Jvm.Cond.and given_1 narrow_1).before args s = true) (hA : ∀ a : Nat, a < s.heap.size → ¬ zAf D a) : ∃ adK adV : Nat → Nat, zTx (D.1, D.2.1, D.2.2.1, adK, adV, zAf D) s s.heap := by
  have hs := flat_of_before _ hg
  obtain ⟨adK, adV, h1, h2⟩ := vk_Sof (args := args) (s := s) (N := 13) (tm := tmS) (len := zLens) (byt := zStrs) (A := zAf D) (by decide) (fun i hi => hs _ (by revert i; decide +kernel)) (fun i hi => hs _ (by revert i; decide +kernel)) (fun i hi => hs _ (by revert i; decide +kernel)) (fun i hi => hs _ (by revert i; decide +kernel)) (fun i hi j hj => hs _ (by revert i j; decide +kernel)) (fun i j hi hj hn => by
    rcases Nat.lt_or_gt_of_ne hn with h | h
    · exact Or.inl (hs _ (kn_ne i hi j hj h))
    · exact Or.inr (hs _ (kn_ne j hj i hi h))) hA
  refine ⟨adK, adV, h1, fun i hi => vk_R.of (kn_str hts i hi) (h2 i hi), va_Zof (hts _ (lt4 13 rfl)) (hts _ (lt1 15 rfl)) (va_eqt (hs (Cond.eq (.static "java/lang/String" "COMPACT_STRINGS" "Z") (.int 1)) (by decide +kernel))) hA, va_Zqof (hts _ (lt4 33 rfl)) (hts _ (lt1 17 rfl)) (hs (Cond.isRef (.static "jdk/internal/util/Preconditions" "SIOOBE_FORMATTER" "Ljava/util/function/BiFunction;")) (by decide +kernel)) hA, fun q hq => va_Nw.of rfl (hts _ (kn_nest q hq)), fun C hC => va_AO.of (hts _ (kn_ao C hC))⟩
/-- the law's own start -/
theorem lw_fix {p : Program} {l : Launch} {e : Env} {s : State} {m : MethodId} {below : List Frame} {meth : Method} {c : Code} {b L : Nat} {xs : Nat → Int32} {Q : State → Prop} (C0 : lw_At p s m meth c b L xs) : ∃ D : zDt, zFix (p, l, e, room_1, s, m, #[Value.ref b], below, meth, c, 4, Q, D) code RL room_1 4 ∧ ∀ q, zAf D q ↔ s.heap.size ≤ q := by
  obtain ⟨hx, hb, hr, hml, hown, hts, hX, hbl, hlocks, hgv⟩ := C0
  have hz : ∀ w ∈ zTb, w.before #[Value.ref b] s = true := fun w hw => hts w (List.mem_filter.mp hw).1
  obtain ⟨dC, hC⟩ := Classical.axiomOfChoice (kn_cls hz hts)
  obtain ⟨dA, hR⟩ := Classical.axiomOfChoice (kn_arr hts)
  obtain ⟨adK, adV, hT⟩ := kn_tx (D := (fun k => (dC k).1, fun k => (dC k).2, dA, fun _ => 0, fun _ => 0, fun q => s.heap.size ≤ q)) hts hgv (fun a ha y => absurd y (Nat.not_le.mpr ha))
  refine ⟨_, ⟨hx, hb, hml, hown, hz, hlocks, ⟨fun k q hq => hC k q hq, fun k q hq => ?_⟩, hT, trivial, rfl, rfl⟩, fun q => Iff.rfl⟩
  match k, hq with
  | 0, hq => cases hq; exact hR 0 _ rfl
  | 1, hq => cases hq; exact hR 1 _ rfl
  | 2, hq => cases hq; exact hR 2 _ rfl
  | 3, hq => cases hq; exact hR 3 _ rfl
  | 4, hq => cases hq; exact hR 4 _ rfl
  | 5, hq => cases hq; exact hR 5 _ rfl
  | k + 6, hq => cases hq
