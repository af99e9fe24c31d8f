/-! THE IMAGE WRITTEN, both -/
section zL9
variable {N : zN} {x m w s B st top n k i f c p j b l t e P h : Nat} {μ0 μ μ' μ1 ν0 ν ν' ν1 M : zM} {S S' S1 X : zS} {v : Int32}
/-- an image under way, of n bytes -/
def JI (N : zN) (S : zS) (st w x m top n : Nat) (μ ν : zM) : Prop := JJ N S st w x m top μ ν ∧ gF ν 1244 m = nI 0 ∧ gF μ 1116 x = nI n ∧ gF ν 1266 m = nI n ∧ ∀ j, j < n → gA μ (x + 21) j = gA ν (m + 36) j
theorem JI.im (h : JJ N S st w x m top μ ν) (hb : gF ν 1244 m = nI 0) (hn : n < 47) (e3 : ∀ j, j < n → gA μ (x + 21) j = gA ν (m + 36) j) : JI N S st w x m top (n + 1) (sF (sA μ (x + 21) n v) 1116 x (nI (n + 1))) (sF (sA ν (m + 36) n v) 1266 m (nI (n + 1))) := by
  have e3' : ∀ j, j < n + 1 → gA (sF (sA μ (x + 21) n v) 1116 x (nI (n + 1))) (x + 21) j = gA (sF (sA ν (m + 36) n v) 1266 m (nI (n + 1))) (m + 36) j := fun j hj => by
    rw [gA_sF, gA_sA, gA_sF, gA_sA]
    by_cases c : j = n
    · rw [if_pos ⟨rfl, c⟩, if_pos ⟨rfl, c⟩]
    · rw [if_neg (by omega), if_neg (by omega)]; exact e3 j (by omega)
  refine ⟨?_, by rw [gF_sF, if_neg (by omega)]; exact hb, by rw [gF_sF, if_pos ⟨rfl, rfl⟩], by rw [gF_sF, if_pos ⟨rfl, rfl⟩], e3'⟩
  refine h.ee ⟨fun a h1 h2 h3 h4 h5 h6 => ⟨fun k => by rw [gF_sF, if_neg (by omega)]; rfl, fun _ => rfl, fun _ => rfl, fun j => by rw [gA_sF, gA_sA, if_neg (by omega)], fun _ => rfl, fun _ => rfl⟩, fun k h1 h2 h3 => by rw [gF_sF, if_neg (by omega)]; rfl, fun _ => rfl⟩ ⟨fun k hk => by rw [gF_sF, if_neg (by omega)]; rfl, fun _ => rfl, fun d j hd => by rw [gA_sF, gA_sA, if_neg (by omega)]⟩ ?_
  obtain ⟨⟨⟨q, t1, t2, t3⟩, t4⟩, r1, ⟨f1, f2⟩, ⟨s1, s2⟩, _⟩ := h.2.2.1
  exact ⟨⟨⟨q, t1, by rw [gF_sF, if_neg (by omega)]; exact t2, by rw [gF_sF, if_neg (by omega)]; exact t3⟩, fun j hj => by rw [gA_sF, gA_sA, if_neg (by omega), gA_sF, gA_sA, if_neg (by omega)]; exact t4 j hj⟩, fun k hk => by rw [gA_sF, gA_sA, if_neg (by omega), gA_sF, gA_sA, if_neg (by omega)]; exact r1 k hk, ⟨by rw [gF_sF, if_neg (by omega), gF_sF, if_neg (by omega)]; exact f1, by rw [gF_sF, if_neg (by omega), gF_sF, if_neg (by omega)]; exact f2⟩, ⟨by rw [gF_sF, if_neg (by omega), gF_sF, if_neg (by omega)]; exact s1, by rw [gF_sF, if_neg (by omega)]; exact s2⟩, ⟨n + 1, by omega, by rw [gF_sF, if_pos ⟨rfl, rfl⟩], by rw [gF_sF, if_pos ⟨rfl, rfl⟩], e3'⟩⟩
theorem JI.say (h : JI N S st w x m top n μ ν) (hn : n < 47) (v : Int32) : ∃ μ' ν', f11_write x v μ = some μ' ∧ f12_says m v ν = some ν' ∧ JI N S st w x m top (n + 1) μ' ν' := by
  obtain ⟨hj, hb, e1, e2, e3⟩ := h
  refine ⟨_, _, ?_, ?_, JI.im (v := v) hj hb hn e3⟩
  · unfold f11_write
    rw [e1, wA_nI (by omega) (by omega), obs]
    simp only [wF, obs]
    rw [gF_sA, e1, nI_1]
  · unfold f12_says
    rw [e2, wA_nI (by omega) (by omega), obs]
    simp only [wF, obs]
    rw [gF_sA, e2, nI_1]
theorem JI.ms (h : JI N S st w x m top n μ ν) : MS N m 0 ν ν S := h.1.ms h.2.1
theorem chk2 (hn : n < 1000000) {bn a d dn : Nat} (e3 : ∀ j, j < n → gA μ a j = gA ν d j) (h1 : n ≤ bn) (h2 : n ≤ dn) (hb : bn < 2 ^ 31) (hd : dn < 2 ^ 31) {g : Int32 × Int32 → Option ((Int32 × Int32) ⊕ (Int32 × Int32))} (hg : ∀ c k, k < n → g (c, nI k) = (rA ν d dn (nI k)).bind fun t => (iRem ((3 * c) + t) 251).bind fun t7 => some (.inl (t7, nI (k + 1)))) (hg2 : ∀ c, g (c, nI n) = some (.inr (c, nI n))) : ∃ r, f11_checkOf a bn (nI n) μ = some r ∧ zloop g 1000000 (151, 0) = some (r, nI n) := by
  have key : ∀ (q i F : Nat) (c : Int32), n - i = q → i ≤ n → q < F → ∃ r, zloop (fun s => f11_checkOf_L1 a bn (nI n) μ s.1 s.2) F (c, nI i) = some (r, nI n) ∧ zloop g F (c, nI i) = some (r, nI n) := by
    intro q
    induction q with
    | zero =>
      intro i F c h3 h4 h5
      have : i = n := by omega
      subst this
      refine ⟨c, zloop_out h5 ?_, zloop_out h5 (hg2 c)⟩
      show f11_checkOf_L1 a bn (nI i) μ c (nI i) = _
      unfold f11_checkOf_L1
      rw [clt_nI (by omega) (by omega), decide_eq_false (by omega), if_neg (by decide)]
    | succ q ih =>
      intro i F c h3 h4 h5
      cases F with
      | zero => omega
      | succ F =>
        have hr : ∃ z, iRem ((3 * c) + gA ν d i) 251 = some z := ⟨_, if_neg (by decide)⟩
        obtain ⟨z, hz⟩ := hr
        obtain ⟨r, r1, r2⟩ := ih (i + 1) F z (by omega) (by omega) (by omega)
        refine ⟨r, zl_in2 ?_ r1, zl_in2 ?_ r2⟩
        · show f11_checkOf_L1 a bn (nI n) μ c (nI i) = _
          unfold f11_checkOf_L1
          rw [clt_nI (by omega) (by omega), decide_eq_true (by omega), if_pos rfl, rA_nI (by omega) hb, obs, e3 i (by omega), hz, obs, obs, nI_1]
        · rw [hg c i (by omega), rA_nI (by omega) hd, obs, hz, obs]
  obtain ⟨r, r1, r2⟩ := key n 0 1000000 151 (by omega) (by omega) (by omega)
  refine ⟨r, ?_, r2⟩
  unfold f11_checkOf
  rw [show ((151 : Int32), (0 : Int32)) = (151, nI 0) from rfl, r1, ozb2]
theorem q_image (h : JR x m top μ ν) : ∃ r μ' ν', f11_image x μ = some (r, μ') ∧ f12_image m ν = some (r, ν') ∧ JR x m top μ' ν' := by
  obtain ⟨N, S, st, w, h⟩ := h
  have nw := h.1.nw
  have b8 := nw.b8; have h8 := nw.h8; have l14 := nw.l14
  have j0 : JI N S st w x m top 0 (sF μ 1116 x 0) (sF (sF ν 1244 m 0) 1266 m 0) := by
    have h1 := h.b1
    refine ⟨?_, by rw [gF_sF, if_neg (by omega), gF_sF, if_pos ⟨rfl, rfl⟩]; rfl, by rw [gF_sF, if_pos ⟨rfl, rfl⟩]; rfl, by rw [gF_sF, if_pos ⟨rfl, rfl⟩]; rfl, fun j hj => absurd hj (by omega)⟩
    refine h1.ee ⟨fun a h1 h2 h3 h4 h5 h6 => ⟨fun k => by rw [gF_sF, if_neg (by omega)], fun _ => rfl, fun _ => rfl, fun _ => rfl, fun _ => rfl, fun _ => rfl⟩, fun k h1 h2 h3 => by rw [gF_sF, if_neg (by omega)], fun _ => rfl⟩ ⟨fun k hk => by rw [gF_sF, if_neg (by omega)], fun _ => rfl, fun _ _ _ => rfl⟩ ?_
    obtain ⟨⟨⟨q, t1, t2, t3⟩, t4⟩, r1, ⟨f1, f2⟩, ⟨s1, s2⟩, _⟩ := h1.2.2.1
    exact ⟨⟨⟨q, t1, by rw [gF_sF, if_neg (by omega)]; exact t2, by rw [gF_sF, if_neg (by omega)]; exact t3⟩, t4⟩, r1, ⟨by rw [gF_sF, if_neg (by omega), gF_sF (k := 1266), if_neg (by omega)]; exact f1, by rw [gF_sF, if_neg (by omega), gF_sF (k := 1266), if_neg (by omega)]; exact f2⟩, ⟨by rw [gF_sF, if_neg (by omega), gF_sF (k := 1266), if_neg (by omega)]; exact s1, by rw [gF_sF, if_neg (by omega)]; exact s2⟩, ⟨0, by omega, by rw [gF_sF, if_pos ⟨rfl, rfl⟩]; rfl, by rw [gF_sF, if_pos ⟨rfl, rfl⟩]; rfl, fun j hj => absurd hj (by omega)⟩⟩
  unfold f11_image f12_image
  simp only [wF, obs]
  generalize sF μ 1116 x 0 = μ0 at j0 ⊢
  generalize sF (sF ν 1244 m 0) 1266 m 0 = ν0 at j0 ⊢
  have bI01 : ∀ a : Int32, a = 0 ∨ a = 1 → (if ceq a 1 = true then (some 1) else (some 0) : Option Int32) = some a := by
    rintro a (rfl | rfl) <;> rfl
  obtain ⟨μ1, ν1, e1, e2, j1⟩ := zl_two (f := fun s => f11_image_L1 x s.1 s.2) (g := fun s => f12_image_L1 m s.1 s.2) (n := nB N) (fun i a b => JI N S st w x m top (3 * i) a b) (by
    intro i a b hi hj
    have cs := hj.1.1.cs
    have q := hj.ms
    obtain ⟨a1, b1, p1, p2, j1⟩ := hj.say (by omega) (S 20 i)
    have cs1 := j1.1.1.cs
    have q1 := j1.ms
    obtain ⟨a2, b2, p3, p4, j2⟩ := j1.say (by omega) (S 21 i)
    have cs2 := j2.1.1.cs
    have q2 := j2.ms
    obtain ⟨a3, b3, p5, p6, j3⟩ := j2.say (by omega) (S 22 i)
    obtain ⟨o1, o2⟩ := q.1.2.2.2.1 i hi
    refine ⟨a3, b3, ?_, ?_, j3⟩
    · show f11_image_L1 x (nI i) a = _
      unfold f11_image_L1
      rw [hj.1.1.wr, obs, cs.w_b, clt_nI (by omega) (by omega), decide_eq_true hi, if_pos rfl, rI_nI (by omega) (by omega), obs, show x + 64 + 3 * i = x + 51 + 13 + 3 * i by omega, cs.r_on (by omega), bI01 _ o1, obs, p1, obs, cs1.r_prio (by omega), p3, obs, cs2.r_old (by omega), bI01 _ o2, obs, p5, obs, obs, nI_1]
    · show f12_image_L1 m (nI i) b = _
      unfold f12_image_L1
      have z0 : f12_of m (nI i) 0 b = some (S 20 i) := (q.ofR (k := 0) (by omega) (by omega)).trans (congrArg some (q.1.2.2.1 i 0 hi (by omega) (fun z => absurd z (by omega))))
      have z1 : f12_of m (nI i) 1 b1 = some (S 21 i) := (q1.ofR (k := 1) (by omega) (by omega)).trans (congrArg some (q1.1.2.2.1 i 1 hi (by omega) (fun z => absurd z (by omega))))
      have z2 : f12_of m (nI i) 2 b2 = some (S 22 i) := (q2.ofR (k := 2) (by omega) (by omega)).trans (congrArg some (q2.1.2.2.1 i 2 hi (by omega) (fun z => absurd z (by omega))))
      rw [q.g_b, clt_nI (by omega) (by omega), decide_eq_true hi, if_pos rfl, z0, obs, p2, obs, z1, obs, p4, obs, z2, obs, p6, obs, obs, nI_1]) (by
    intro a b hj
    have cs := hj.1.1.cs
    have q := hj.ms
    constructor
    · show f11_image_L1 x (nI (nB N)) a = _
      unfold f11_image_L1
      rw [hj.1.1.wr, obs, cs.w_b, clt_nI (by omega) (by omega), decide_eq_false (by omega), if_neg (by decide)]
    · show f12_image_L1 m (nI (nB N)) b = _
      unfold f12_image_L1
      rw [q.g_b, clt_nI (by omega) (by omega), decide_eq_false (by omega), if_neg (by decide)]) (nB N) 0 1000000 μ0 ν0 (by omega) (by omega) (by omega) j0
  obtain ⟨μ2, ν2, e3, e4, j2⟩ := zl_two (f := fun s => f11_image_L2 x s.1 s.2) (g := fun s => f12_image_L2 m s.1 s.2) (n := nL N) (fun i a b => JI N S st w x m top (3 * nB N + i) a b) (by
    intro i a b hi hj
    have cs := hj.1.1.cs
    have q := hj.ms
    obtain ⟨a1, b1, p1, p2, j1⟩ := hj.say (by omega) (S 40 i)
    obtain ⟨o1, o2⟩ := q.1.2.2.2.2.1 i hi
    refine ⟨a1, b1, ?_, ?_, j1⟩
    · show f11_image_L2 x (nI i) a = _
      unfold f11_image_L2
      rw [hj.1.1.wr, obs, cs.w_l, clt_nI (by omega) (by omega), decide_eq_true hi, if_pos rfl, rZ_nI (by omega) (by omega), obs, show x + 55 = x + 51 + 4 by omega, cs.r_whole (by omega), bI01 _ o2, obs, p1, obs, obs, nI_1]
    · show f12_image_L2 m (nI i) b = _
      unfold f12_image_L2
      rw [q.g_l, clt_nI (by omega) (by omega), decide_eq_true hi, if_pos rfl, addQ964, q.its (by omega), obs, o1, p2, obs, obs, nI_1]) (by
    intro a b hj
    have cs := hj.1.1.cs
    have q := hj.ms
    constructor
    · show f11_image_L2 x (nI (nL N)) a = _
      unfold f11_image_L2
      rw [hj.1.1.wr, obs, cs.w_l, clt_nI (by omega) (by omega), decide_eq_false (by omega), if_neg (by decide)]
    · show f12_image_L2 m (nI (nL N)) b = _
      unfold f12_image_L2
      rw [q.g_l, clt_nI (by omega) (by omega), decide_eq_false (by omega), if_neg (by decide)]) (nL N) 0 1000000 μ1 ν1 (by omega) (by omega) (by omega) j1
  obtain ⟨μ3, ν3, e5, e6, j3⟩ := zl_two (f := fun s => f11_image_L3 x s.1 s.2) (g := fun s => f12_image_L3 m s.1 s.2) (n := nH N) (fun i a b => JI N S st w x m top (3 * nB N + nL N + i) a b) (by
    intro i a b hi hj
    have cs := hj.1.1.cs
    have q := hj.ms
    obtain ⟨a1, b1, p1, p2, j1⟩ := hj.say (by omega) (S 41 i)
    refine ⟨a1, b1, ?_, ?_, j1⟩
    · show f11_image_L3 x (nI i) a = _
      unfold f11_image_L3
      rw [hj.1.1.wr, obs, cs.w_h, clt_nI (by omega) (by omega), decide_eq_true hi, if_pos rfl, rA_nI (by omega) (by omega), obs, show x + 56 = x + 51 + 5 by omega, cs.r_home (by omega), p1, obs, obs, nI_1]
    · show f12_image_L3 m (nI i) b = _
      unfold f12_image_L3
      rw [q.g_h, clt_nI (by omega) (by omega), decide_eq_true hi, if_pos rfl, addQ978, q.its (by omega), obs, q.1.2.2.2.2.2.1 i hi, p2, obs, obs, nI_1]) (by
    intro a b hj
    have cs := hj.1.1.cs
    have q := hj.ms
    constructor
    · show f11_image_L3 x (nI (nH N)) a = _
      unfold f11_image_L3
      rw [hj.1.1.wr, obs, cs.w_h, clt_nI (by omega) (by omega), decide_eq_false (by omega), if_neg (by decide)]
    · show f12_image_L3 m (nI (nH N)) b = _
      unfold f12_image_L3
      rw [q.g_h, clt_nI (by omega) (by omega), decide_eq_false (by omega), if_neg (by decide)]) (nH N) 0 1000000 μ2 ν2 (by omega) (by omega) (by omega) j2
  have hn : 3 * nB N + nL N + nH N < 47 := by omega
  generalize 3 * nB N + nL N + nH N = n at j3 hn
  obtain ⟨r, r1, r2⟩ := chk2 (μ := μ3) (ν := ν3) (n := n) (by omega) (bn := 47) (a := x + 21) (d := m + 36) (dn := 47) j3.2.2.2.2 (by omega) (by omega) (by omega) (by omega) (g := fun s => f12_image_L4 m ν3 s.1 s.2) (by
    intro c k hk
    show f12_image_L4 m ν3 c (nI k) = _
    unfold f12_image_L4
    rw [j3.2.2.2.1, clt_nI (by omega) (by omega), decide_eq_true hk, if_pos rfl, nI_1]
    rfl) (by
    intro c
    show f12_image_L4 m ν3 c (nI n) = _
    unfold f12_image_L4
    rw [j3.2.2.2.1, clt_nI (by omega) (by omega), decide_eq_false (by omega), if_neg (by decide)])
  obtain ⟨μ4, ν4, p1, p2, j4⟩ := j3.say (by omega) r
  rw [show ((0 : Int32), μ0) = (nI 0, μ0) from rfl, e1, ozb2, show ((0 : Int32), μ1) = (nI 0, μ1) from rfl, e3, ozb2, show ((0 : Int32), μ2) = (nI 0, μ2) from rfl, e5, ozb2, j3.2.2.1, r1, obs, p1, obs, show ((0 : Int32), ν0) = (nI 0, ν0) from rfl, e2, ozb2, show ((0 : Int32), ν1) = (nI 0, ν1) from rfl, e4, ozb2, show ((0 : Int32), ν2) = (nI 0, ν2) from rfl, e6, ozb2, r2, ozb2, p2, obs, j4.2.2.1, j4.2.2.2.1]
  exact ⟨_, _, _, rfl, rfl, _, _, _, _, j4.1⟩
end zL9
