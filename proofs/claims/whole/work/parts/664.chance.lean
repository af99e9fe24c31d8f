/-! NUMBERS DRAWN; chance -/
section zL4
variable {N : zN} {x m w s B st top n k i f c p j b l t e P : Nat} {μ0 μ μ' μ1 ν0 ν ν' ν1 M : zM} {S S' S1 X : zS} {v : Int32}
theorem i64_of (hk : k < 2 ^ 31) : Int32.toInt64 (nI k) = Int64.ofNat k := by
  apply Int64.toInt_inj.mp
  rw [Int32.toInt_toInt64, nI_toInt hk, Int64.toInt_ofNat_of_lt (by omega)]
theorem draw_x (hk : k < 2 ^ 31) : (1103515245 * Int32.toInt64 (nI k) + 12345 : Int64) = Int64.ofNat (1103515245 * k + 12345) := by
  rw [i64_of hk, Int64.ofNat_add, Int64.ofNat_mul]
  rfl
theorem i64_and {n : Nat} (hn : n < 2 ^ 63) : Int64.ofNat n &&& 2147483647 = Int64.ofNat (n % 2147483648) := by
  apply Int64.toBitVec_inj.mp
  rw [Int64.toBitVec_and]
  apply BitVec.eq_of_toNat_eq
  rw [BitVec.toNat_and, Int64.toBitVec_ofNat', Int64.toBitVec_ofNat', BitVec.toNat_ofNat, BitVec.toNat_ofNat, show (2147483647 : Int64).toBitVec.toNat = 2 ^ 31 - 1 from by decide, Nat.and_two_pow_sub_one_eq_mod]
  omega
theorem i64_rem {n : Nat} (hn : n < 2 ^ 63) : lRem (Int64.ofNat n) 2147483648 = some (Int64.ofNat (n % 2147483648)) := by
  unfold lRem
  rw [if_neg (by decide)]
  congr 1
  apply Int64.toInt_inj.mp
  have e1 : (Int64.ofNat n / 2147483648) = Int64.ofNat (n / 2147483648) := by
    apply Int64.toInt_inj.mp
    rw [Int64.toInt_div_of_ne_right _ _ (by decide), Int64.toInt_ofNat_of_lt (by omega), Int64.toInt_ofNat_of_lt (by omega)]
    show (n : Int).tdiv 2147483648 = _
    rw [Int.tdiv_eq_ediv_of_nonneg (by omega)]
    omega
  have e2 : Int64.ofNat (n / 2147483648) * 2147483648 = Int64.ofNat (n / 2147483648 * 2147483648) := by rw [Int64.ofNat_mul]; rfl
  have e3 : Int64.ofNat n = Int64.ofNat (n % 2147483648) + Int64.ofNat (n / 2147483648 * 2147483648) := by
    rw [← Int64.ofNat_add]
    congr 1
    omega
  rw [e1, e2]
  conv => lhs; rw [e3]
  rw [Int64.add_sub_cancel]
theorem i64_to32 (hn : n < 2 ^ 31) : (Int64.ofNat n).toInt32 = nI n := by
  apply Int32.toInt_inj.mp
  rw [Int64.toInt_toInt32, Int64.toInt_ofNat_of_lt (by omega), nI_toInt hn]
  rw [Int.bmod_def]
  omega
/-- the number drawn next -/
def dnx (k : Nat) : Nat := (1103515245 * k + 12345) % 2147483648
theorem C_draw (h : gF μ 1117 x = nI k) (hk : k < 2 ^ 31) (hl : 0 < l) (hl2 : l < 2 ^ 31) : f11_draw x (nI l) μ = some (nI (dnx k / 64 % l), sF μ 1117 x (nI (dnx k))) := by
  have hd : dnx k < 2 ^ 31 := Nat.mod_lt _ (by omega)
  unfold f11_draw
  rw [h, draw_x hk, obs, i64_and (by omega), show Int64.ofNat ((1103515245 * k + 12345) % 2147483648) = Int64.ofNat (dnx k) from rfl, i64_to32 hd]
  simp only [wF, obs]
  rw [show gF (sF μ 1117 x (nI (dnx k))) 1117 x = nI (dnx k) from by rw [gF_sF, if_pos ⟨rfl, rfl⟩], show clt 0 (nI l) = true from by rw [show (0 : Int32) = nI 0 from rfl, clt_nI (by omega) hl2, decide_eq_true hl], if_pos rfl, show (64 : Int32) = nI 64 from rfl, iDiv_nI hd (by omega) (by omega), obs, iRem_nI (by omega) hl hl2, obs, obs]
theorem R_draw (h : gF ν 1264 m = nI k) (hk : k < 2 ^ 31) (hl : 0 < l) (hl2 : l < 2 ^ 31) : f12_draw m (nI l) ν = some (nI (dnx k / 64 % l), sF ν 1264 m (nI (dnx k))) := by
  have hd : dnx k < 2 ^ 31 := Nat.mod_lt _ (by omega)
  unfold f12_draw
  rw [h, draw_x hk, i64_rem (by omega), obs, show Int64.ofNat ((1103515245 * k + 12345) % 2147483648) = Int64.ofNat (dnx k) from rfl, i64_to32 hd]
  simp only [wF, obs]
  rw [show gF (sF ν 1264 m (nI (dnx k))) 1264 m = nI (dnx k) from by rw [gF_sF, if_pos ⟨rfl, rfl⟩], show (64 : Int32) = nI 64 from rfl, iDiv_nI hd (by omega) (by omega), obs, iRem_nI (by omega) hl hl2, obs]
theorem JJ.dr (h : JJ N S st w x m top μ ν) (hv : ¬ v < 0) : JJ N S st w x m top (sF μ 1117 x v) (sF ν 1264 m v) := by
  refine h.ee ⟨fun a h1 h2 h3 h4 h5 h6 => ⟨fun k => by rw [gF_sF, if_neg (by omega)], fun _ => rfl, fun _ => rfl, fun _ => rfl, fun _ => rfl, fun _ => rfl⟩, fun k h1 h2 h3 => by rw [gF_sF, if_neg (by omega)], fun _ => rfl⟩ ⟨fun k hk => by rw [gF_sF, if_neg (by omega)], fun _ => rfl, fun _ _ _ => rfl⟩ ?_
  obtain ⟨⟨⟨n, t1, t2, t3⟩, t4⟩, r1, ⟨f1, f2⟩, s1, ⟨q, i1, i2, i3, i4⟩⟩ := h.2.2.1
  refine ⟨⟨⟨n, t1, by rw [gF_sF, if_neg (by omega)]; exact t2, by rw [gF_sF, if_neg (by omega)]; exact t3⟩, t4⟩, r1, ⟨by rw [gF_sF, if_neg (by omega), gF_sF, if_neg (by omega)]; exact f1, by rw [gF_sF, if_neg (by omega), gF_sF, if_neg (by omega)]; exact f2⟩, ⟨by rw [gF_sF, if_pos ⟨rfl, rfl⟩, gF_sF, if_pos ⟨rfl, rfl⟩], by rw [gF_sF, if_pos ⟨rfl, rfl⟩]; exact hv⟩, ⟨q, i1, by rw [gF_sF, if_neg (by omega)]; exact i2, by rw [gF_sF, if_neg (by omega)]; exact i3, i4⟩⟩
theorem q_seed (h : JR x m top μ ν) (a : Int32) : ∃ r μ' ν', f11_seed x a μ = some (r, μ') ∧ f12_seed m a ν = some (r, ν') ∧ JR x m top μ' ν' := by
  obtain ⟨N, S, st, w, h⟩ := h
  obtain ⟨μr, νr, u1, u2, u3⟩ := rf_bool (k := 5) h (by omega)
  unfold f11_seed f12_seed
  cases c : clt a 0 with
  | true =>
    rw [if_pos rfl, if_pos rfl, show (5 : Int32) = nI 5 from rfl, u1, u2, ozb2, ozb2]
    exact ⟨_, _, _, rfl, rfl, u3⟩
  | false =>
    rw [if_neg (by decide), if_neg (by decide)]
    exact ⟨_, _, _, rfl, rfl, _, _, _, _, h.dr (of_decide_eq_false c)⟩
end zL4
