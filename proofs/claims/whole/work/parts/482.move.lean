/-! RELATIONS MOVED: another memory that is the same where it is read -/
/-- one cell is the same in both memories -/
def SA (a : Nat) (μ μ' : zM) : Prop := (∀ k, gF μ' k a = gF μ k a) ∧ (∀ k, gB μ' k a = gB μ k a) ∧ (∀ k, gR μ' k a = gR μ k a) ∧ (∀ j, gA μ' a j = gA μ a j) ∧ (∀ j, gZ μ' a j = gZ μ a j) ∧ ∀ j, gX μ' a j = gX μ a j
section zV0
variable {N : zN} {s w m B : Nat} {μ0 μ μ' ν0 ν ν' : zM} {S : zS}
theorem SA.rf {a : Nat} : SA a μ μ := ⟨fun _ => rfl, fun _ => rfl, fun _ => rfl, fun _ => rfl, fun _ => rfl, fun _ => rfl⟩
theorem SA.sy {a : Nat} (h : SA a μ μ') : SA a μ' μ := ⟨fun k => (h.1 k).symm, fun k => (h.2.1 k).symm, fun k => (h.2.2.1 k).symm, fun k => (h.2.2.2.1 k).symm, fun k => (h.2.2.2.2.1 k).symm, fun k => (h.2.2.2.2.2 k).symm⟩
theorem SA.tr {a : Nat} (h : SA a μ0 μ) (h2 : SA a μ μ') : SA a μ0 μ' := ⟨fun k => (h2.1 k).trans (h.1 k), fun k => (h2.2.1 k).trans (h.2.1 k), fun k => (h2.2.2.1 k).trans (h.2.2.1 k), fun k => (h2.2.2.2.1 k).trans (h.2.2.2.1 k), fun k => (h2.2.2.2.2.1 k).trans (h.2.2.2.2.1 k), fun k => (h2.2.2.2.2.2 k).trans (h.2.2.2.2.2 k)⟩
theorem WI.mv (h : WI N w μ) (hw : ∀ a, w ≤ a → a < w + 13 → SA a μ μ') : WI N w μ' := by
  obtain ⟨⟨a1, a2, a3, a4, a5⟩, b1, c1, d1, e1, f1, g1, i1, j1⟩ := h
  have w0 := hw w (by omega) (by omega)
  have A : ∀ d j, d < 13 → gA μ' (w + d) j = gA μ (w + d) j := fun d j hd => (hw (w + d) (by omega) (by omega)).2.2.2.1 j
  have Z : ∀ d j, d < 13 → gZ μ' (w + d) j = gZ μ (w + d) j := fun d j hd => (hw (w + d) (by omega) (by omega)).2.2.2.2.1 j
  refine ⟨⟨by rw [w0.1]; exact a1, by rw [w0.1]; exact a2, by rw [w0.1]; exact a3, by rw [w0.1]; exact a4, by rw [w0.1]; exact a5⟩, fun b hb => ?_, fun b p hb hp => ?_, fun e he => ?_, fun l hl => ?_, fun b hb => ?_, fun x hx => ?_, fun k hk => ?_, fun k hk => ?_⟩
  · rw [A 5 _ (by omega)]; exact b1 b hb
  · rw [A 6 _ (by omega)]; exact c1 b p hb hp
  · rw [A 7 _ (by omega), A 8 _ (by omega), Z 9 _ (by omega)]; exact d1 e he
  · rw [A 10 _ (by omega), A 11 _ (by omega)]; exact e1 l hl
  · rw [A 3 _ (by omega), Z 4 _ (by omega)]; exact f1 b hb
  · rw [A 12 _ (by omega)]; exact g1 x hx
  · rw [A 1 _ (by omega)]; exact i1 k hk
  · rw [A 2 _ (by omega)]; exact j1 k hk
theorem CS.wi (h : CS N s w μ0 μ S) : WI N w μ := h.c_ct.2.1.mv (fun a h1 h2 => h.c_fr a (by have := h.c_ct.2.2; omega))
theorem CS.mv (h : CS N s w μ0 μ S) (hs : ∀ a, s ≤ a → a < s + 261 → SA a μ μ') (hw : ∀ a, w ≤ a → a < w + 13 → SA a μ μ') : CS N s w μ' μ' S := by
  have F : ∀ k d, d < 261 → gF μ' k (s + d) = gF μ k (s + d) := fun k d hd => (hs (s + d) (by omega) (by omega)).1 k
  have F0 : ∀ k, gF μ' k s = gF μ k s := fun k => (hs s (by omega) (by omega)).1 k
  have B : ∀ k d, d < 261 → gB μ' k (s + d) = gB μ k (s + d) := fun k d hd => (hs (s + d) (by omega) (by omega)).2.1 k
  have B0 : ∀ k, gB μ' k s = gB μ k s := fun k => (hs s (by omega) (by omega)).2.1 k
  have A : ∀ d j, d < 261 → gA μ' (s + d) j = gA μ (s + d) j := fun d j hd => (hs (s + d) (by omega) (by omega)).2.2.2.1 j
  have Z : ∀ d j, d < 261 → gZ μ' (s + d) j = gZ μ (s + d) j := fun d j hd => (hs (s + d) (by omega) (by omega)).2.2.2.2.1 j
  have FE : ∀ k a, s ≤ a → a < s + 261 → gF μ' k a = gF μ k a := fun k a h1 h2 => (hs a h1 h2).1 k
  have BE : ∀ k a, s ≤ a → a < s + 261 → gB μ' k a = gB μ k a := fun k a h1 h2 => (hs a h1 h2).2.1 k
  refine ⟨fun i hi => by rw [FE _ _ (by omega) (by omega)]; exact h.c_role i hi,
    fun i hi => by rw [FE _ _ (by omega) (by omega)]; exact h.c_state i hi,
    fun i hi => by rw [FE _ _ (by omega) (by omega)]; exact h.c_wait i hi,
    fun i hi => by rw [FE _ _ (by omega) (by omega)]; exact h.c_chg i hi,
    fun i hi => by rw [FE _ _ (by omega) (by omega)]; exact h.c_hage i hi,
    fun i hi => by rw [FE _ _ (by omega) (by omega)]; exact h.c_life i hi,
    fun i hi => by rw [FE _ _ (by omega) (by omega)]; exact h.c_was i hi,
    fun i hi => by rw [FE _ _ (by omega) (by omega)]; exact h.c_hroot i hi,
    fun i hi => by rw [FE _ _ (by omega) (by omega)]; exact h.c_hcost i hi,
    fun i hi => by rw [FE _ _ (by omega) (by omega)]; exact h.c_hid i hi,
    fun i hi => by rw [FE _ _ (by omega) (by omega)]; exact h.c_hport i hi,
    fun i hi => by rw [BE _ _ (by omega) (by omega)]; exact h.c_agr i hi,
    fun i hi => by rw [BE _ _ (by omega) (by omega)]; exact h.c_edge i hi,
    fun i hi => by rw [BE _ _ (by omega) (by omega)]; exact h.c_spk i hi,
    fun i hi => by rw [BE _ _ (by omega) (by omega)]; exact h.c_owes i hi,
    fun i hi => by rw [BE _ _ (by omega) (by omega)]; exact h.c_answ i hi,
    fun i hi => by rw [BE _ _ (by omega) (by omega)]; exact h.c_mark i hi,
    fun i hi => by rw [BE _ _ (by omega) (by omega)]; exact h.c_holds i hi,
    fun i hi => by rw [BE _ _ (by omega) (by omega)]; exact h.c_on i hi,
    fun i hi => by rw [FE _ _ (by omega) (by omega)]; exact h.c_prio i hi,
    fun i hi => by rw [BE _ _ (by omega) (by omega)]; exact h.c_old i hi,
    fun i hi => by rw [FE _ _ (by omega) (by omega)]; exact h.c_rport i hi,
    fun i hi => by rw [FE _ _ (by omega) (by omega)]; exact h.c_bage i hi,
    fun i hi => by rw [FE _ _ (by omega) (by omega)]; exact h.c_short i hi,
    fun i hi => by rw [FE _ _ (by omega) (by omega)]; exact h.c_root i hi,
    fun i hi => by rw [FE _ _ (by omega) (by omega)]; exact h.c_cost i hi,
    fun i hi => by rw [FE _ _ (by omega) (by omega)]; exact h.c_cid i hi,
    fun i hi => by rw [FE _ _ (by omega) (by omega)]; exact h.c_cport i hi,
    fun i hi => by rw [FE _ _ (by omega) (by omega)]; exact h.c_froot i hi,
    fun i hi => by rw [FE _ _ (by omega) (by omega)]; exact h.c_fcost i hi,
    fun i hi => by rw [FE _ _ (by omega) (by omega)]; exact h.c_fid i hi,
    fun i hi => by rw [FE _ _ (by omega) (by omega)]; exact h.c_fport i hi,
    fun i hi => by rw [Z _ _ (by omega)]; exact h.c_whole i hi,
    fun i hi => by rw [A _ _ (by omega)]; exact h.c_home i hi,
    fun i hi => by rw [A _ _ (by omega)]; exact h.c_la i hi,
    fun i hi => by rw [A _ _ (by omega)]; exact h.c_lg i hi,
    fun i hi => by rw [Z _ _ (by omega)]; exact h.c_tch i hi,
    fun i hi => by rw [FE _ _ (by omega) (by omega)]; exact h.c_arr i hi,
    fun i hi => by rw [FE _ _ (by omega) (by omega)]; exact h.c_mage i hi,
    fun i hi => by rw [FE _ _ (by omega) (by omega)]; exact h.c_bits i hi,
    fun i hi => by rw [FE _ _ (by omega) (by omega)]; exact h.c_mroot i hi,
    fun i hi => by rw [FE _ _ (by omega) (by omega)]; exact h.c_mcost i hi,
    fun i hi => by rw [FE _ _ (by omega) (by omega)]; exact h.c_mid i hi,
    fun i hi => by rw [FE _ _ (by omega) (by omega)]; exact h.c_mport i hi,
    fun i hi => by rw [BE _ _ (by omega) (by omega)]; exact h.c_there i hi,
    fun i hi => by rw [BE _ _ (by omega) (by omega)]; exact h.c_reply i hi,
    by rw [F0]; exact h.c_step, by rw [F0]; exact h.c_flu, by rw [B0]; exact h.c_beg,
    fun i hi => by rw [FE _ _ (by omega) (by omega)]; exact h.c_num i hi, by rw [(hs s (by omega) (by omega)).2.2.1]; exact h.c_wir, ?_, h.c_so, ⟨h.c_ct.1, h.wi.mv hw, h.c_ct.2.2⟩, FrC.rf⟩
  obtain ⟨f, t, h1, h2, h3, h4, h5, h6⟩ := h.c_kept
  exact ⟨f, t, h1, h2, by rw [F0]; exact h3, by rw [F0]; exact h4, h5, fun k c hk hc => by rw [A _ _ (by omega)]; exact h6 k c hk hc⟩
theorem CS.self (h : CS N s w μ0 μ S) : CS N s w μ μ S := h.mv (fun a _ _ => SA.rf) (fun a _ _ => SA.rf)
/-- the reference's row at base B, whatever the base is now -/
def M0 (N : zN) (m B : Nat) (ν : zM) (S : zS) : Prop := MR N (rw_ m B ν) S ∧ SO N S ∧ NW N ∧ RI N m ν
theorem M0.ms (h : M0 N m B ν S) (hb : gF ν 1244 m = nI B) (hB : B = 0 ∨ B = 2874) : MS N m B ν ν S := ⟨h.1, h.2.1, ⟨h.2.2.1, h.2.2.2, hb, hB⟩, FrM.rf⟩
theorem RI.mv (h : RI N m ν) (hF : ∀ k, 1201 ≤ k → k ≤ 1205 → gF ν' k m = gF ν k m) (hA : ∀ d j, 1 ≤ d → d ≤ 11 → gA ν' (m + d) j = gA ν (m + d) j) : RI N m ν' := by
  obtain ⟨⟨a1, a2, a3, a4, a5⟩, b1, c1, d1, e1, f1, g1, i1⟩ := h
  refine ⟨⟨by rw [hF _ (by omega) (by omega)]; exact a1, by rw [hF _ (by omega) (by omega)]; exact a2, by rw [hF _ (by omega) (by omega)]; exact a3, by rw [hF _ (by omega) (by omega)]; exact a4, by rw [hF _ (by omega) (by omega)]; exact a5⟩, fun b hb => ?_, fun e he => ?_, fun l hl => ?_, fun b hb => ?_, fun x hx => ?_, fun k hk => ?_, fun k hk => ?_⟩
  · rw [hA 3 _ (by omega) (by omega)]; exact b1 b hb
  · rw [hA 4 _ (by omega) (by omega), hA 4 _ (by omega) (by omega), hA 5 _ (by omega) (by omega), hA 10 _ (by omega) (by omega), hA 11 _ (by omega) (by omega)]; exact c1 e he
  · rw [hA 6 _ (by omega) (by omega), hA 7 _ (by omega) (by omega)]; exact d1 l hl
  · rw [hA 1 _ (by omega) (by omega), hA 2 _ (by omega) (by omega)]; exact e1 b hb
  · rw [hA 8 _ (by omega) (by omega)]; exact f1 x hx
  · rw [hA 9 _ (by omega) (by omega)]; exact g1 k hk
  · rw [hA 9 _ (by omega) (by omega)]; exact i1 k hk
theorem MR.ro {R R' : Nat → Int32} (h : MR N R S) (nw : NW N) (hR : ∀ k, k < 2874 ∨ (3000 ≤ k ∧ k < 3018) → R' k = R k) : MR N R' S := by
  have b8 := nw.b8; have l14 := nw.l14; have h8 := nw.h8
  obtain ⟨m1, m2, m3, m4, m5, m6, m7, m8, m9, m10, mw, m11⟩ := h
  refine ⟨fun e k he hk hh => ?_, m2, fun b k hb hk hc => ?_, m4, fun l hl => ?_, fun x hx => ?_, fun b x hb hx => ?_, m8, ?_, ?_, ?_, ?_⟩
  · have := nw.pl_48 he; rw [hR _ (by omega)]; exact m1 e k he hk hh
  · rw [hR _ (by omega)]; exact m3 b k hb hk hc
  · rw [hR _ (by omega)]; exact m5 l hl
  · rw [hR _ (by omega)]; exact m6 x hx
  · have := nw.b_8 hb; rw [hR _ (by omega), hR _ (by omega)]; exact m7 b x hb hx
  · rw [hR _ (by omega), hR _ (by omega)]; exact m9
  · obtain ⟨t, t1, t2, t3⟩ := m10
    refine ⟨t, t1, by rw [hR _ (by omega)]; exact t2, fun hb => ⟨(t3 hb).1, fun k hk => ?_⟩⟩
    rw [hR _ (by omega)]; exact (t3 hb).2 k hk
  · exact ⟨fun k hk => by rw [hR _ (by omega)]; exact mw.1 k hk, fun b hb => by rw [hR _ (by omega)]; exact mw.2 b hb⟩
  · obtain ⟨n1, n2, n3, n4⟩ := m11
    have ll : (lS S).length ≤ 84 := by
      have := nodup_len (6 * nL N) (lS S) n1 (fun q hq => ((n2 q).mp hq).1)
      omega
    refine ⟨n1, n2, by rw [hR _ (by omega)]; exact n3, fun k q hk => ?_⟩
    have hl : k < (lS S).length := by
      obtain ⟨x, _⟩ := List.getElem?_eq_some_iff.mp hk
      exact x
    obtain ⟨o1, o2, o3, o4⟩ := n4 k q hk
    exact ⟨by rw [hR _ (by omega)]; exact o1, by rw [hR _ (by omega)]; exact o2, by rw [hR _ (by omega)]; exact o3, fun c h1 h2 => by rw [hR _ (by omega)]; exact o4 c h1 h2⟩
theorem MS.row0 (q : MS N m B ν0 ν S) : M0 N m B ν S := ⟨q.1, q.2.1, q.2.2.1.1, q.2.2.1.2.1.mv (fun k _ _ => q.2.2.2.1 k m) (fun d j h1 h2 => q.ar j (by omega) (by omega) (by omega))⟩
theorem M0.mv (h : M0 N m B ν S) (hF : ∀ k, 1201 ≤ k → k ≤ 1205 → gF ν' k m = gF ν k m) (hA : ∀ d j, 1 ≤ d → d ≤ 11 → gA ν' (m + d) j = gA ν (m + d) j) (h24 : ∀ j, B ≤ j → j < B + 2874 → gA ν' (m + 24) j = gA ν (m + 24) j) (h26 : ∀ j, gA ν' (m + 26) j = gA ν (m + 26) j) (h27 : ∀ j, gA ν' (m + 27) j = gA ν (m + 27) j) : M0 N m B ν' S := by
  refine ⟨h.1.ro h.2.2.1 (fun k hk => ?_), h.2.1, h.2.2.1, h.2.2.2.mv hF hA⟩
  unfold rw_
  rw [h26, h27]
  by_cases c : k < 3000
  · rw [if_pos c, if_pos c, h24 _ (by omega) (by omega)]
  · rw [if_neg c, if_neg c]
end zV0
