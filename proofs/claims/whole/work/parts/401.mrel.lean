/-! THE REFERENCE'S ROW AND THE SPEC'S STATE (part 401, by wip/whole/gen2/mk401.py) -/
def RI (N : zN) (m : Nat) (ν : zM) : Prop := (gF ν 1201 m = nI (nB N) ∧ gF ν 1202 m = nI (nL N) ∧ gF ν 1203 m = nI (nH N) ∧ gF ν 1204 m = nI (nAg N) ∧ gF ν 1205 m = nI (nDl N)) ∧ (∀ b, b < nB N → gA ν (m + 3) b = nI (nP N b)) ∧ (∀ e, e < 2 * nL N → gA ν (m + 4) (2 * e) = nI (bo N e) ∧ gA ν (m + 4) (2 * e + 1) = nI (po N e) ∧ gA ν (m + 5) e = nI (tE N e) ∧ gA ν (m + 10) (pl N e) = nI (e / 2) ∧ gA ν (m + 11) (pl N e) = nI (e % 2)) ∧ (∀ l, l < nL N → gA ν (m + 6) l = nI (cst N l) ∧ gA ν (m + 7) l = nI (tks N l)) ∧ (∀ b, b < nB N → gA ν (m + 1) b = nI (tPr N b) ∧ gA ν (m + 2) b = nI (tOl N b)) ∧ (∀ h, h < nH N → gA ν (m + 8) h = nI (tHm N h)) ∧ (∀ k, k < 6 * nB N → gA ν (m + 9) k = nI (nmB N k)) ∧ ∀ k, k < 6 * nH N → gA ν (m + 9) (48 + k) = nI (nmH N k)
def FrM (m B : Nat) (ν0 ν : zM) : Prop := (∀ k a, gF ν k a = gF ν0 k a) ∧ (∀ k a, gB ν k a = gB ν0 k a) ∧ (∀ k a, gR ν k a = gR ν0 k a) ∧ (∀ a j, ¬ (a = m + 24 ∧ B ≤ j ∧ j < B + 2874) → a ≠ m + 26 → a ≠ m + 27 → gA ν a j = gA ν0 a j) ∧ (∀ a j, gZ ν a j = gZ ν0 a j) ∧ ∀ a j, gX ν a j = gX ν0 a j
theorem FrM.rf {m B : Nat} {ν : zM} : FrM m B ν ν := ⟨fun _ _ => rfl, fun _ _ => rfl, fun _ _ => rfl, fun _ _ _ _ _ => rfl, fun _ _ => rfl, fun _ _ => rfl⟩
theorem FrM.tr {m B : Nat} {ν ν1 ν2 : zM} (h : FrM m B ν ν1) (h2 : FrM m B ν1 ν2) : FrM m B ν ν2 := ⟨fun k a => (h2.1 k a).trans (h.1 k a), fun k a => (h2.2.1 k a).trans (h.2.1 k a), fun k a => (h2.2.2.1 k a).trans (h.2.2.1 k a), fun a j q1 q2 q3 => (h2.2.2.2.1 a j q1 q2 q3).trans (h.2.2.2.1 a j q1 q2 q3), fun k a => (h2.2.2.2.2.1 k a).trans (h.2.2.2.2.1 k a), fun k a => (h2.2.2.2.2.2 k a).trans (h.2.2.2.2.2 k a)⟩
theorem FrM.wA {m B k : Nat} {v : Int32} {ν0 ν : zM} (h : FrM m B ν0 ν) (hk : k < 2874) : FrM m B ν0 (sA ν (m + 24) (B + k) v) := ⟨h.1, h.2.1, h.2.2.1, fun a j q1 q2 q3 => by rw [gA_sA, if_neg (by omega)]; exact h.2.2.2.1 a j q1 q2 q3, h.2.2.2.2⟩
theorem FrM.wC {m B j : Nat} {v : Int32} {ν0 ν : zM} (h : FrM m B ν0 ν) : FrM m B ν0 (sA ν (m + 26) j v) := ⟨h.1, h.2.1, h.2.2.1, fun a j' q1 q2 q3 => by rw [gA_sA, if_neg (by omega)]; exact h.2.2.2.1 a j' q1 q2 q3, h.2.2.2.2⟩
theorem FrM.wW {m B j : Nat} {v : Int32} {ν0 ν : zM} (h : FrM m B ν0 ν) : FrM m B ν0 (sA ν (m + 27) j v) := ⟨h.1, h.2.1, h.2.2.1, fun a j' q1 q2 q3 => by rw [gA_sA, if_neg (by omega)]; exact h.2.2.2.1 a j' q1 q2 q3, h.2.2.2.2⟩
/-- the row's number at k -/
def rw_ (m B : Nat) (ν : zM) (k : Nat) : Int32 := if k < 3000 then gA ν (m + 24) (B + k) else if k < 3010 then gA ν (m + 27) (k - 3000) else gA ν (m + 26) (k - 3010)
theorem rw_lo {m B k : Nat} {ν : zM} (hk : k < 3000) : rw_ m B ν k = gA ν (m + 24) (B + k) := if_pos hk
theorem rw_w (m B : Nat) (ν : zM) (k k' : Nat) (v : Int32) (hk : k < 3000) : rw_ m B (sA ν (m + 24) (B + k) v) k' = if k' = k then v else rw_ m B ν k' := by
  unfold rw_
  by_cases c : k' < 3000
  · rw [if_pos c, gA_sA, if_pos c]
    by_cases q : k' = k
    · subst q; rw [if_pos ⟨rfl, rfl⟩, if_pos rfl]
    · rw [if_neg (by omega), if_neg q]
  · rw [if_neg c, if_neg (show ¬ k' = k by omega), if_neg c, gA_sA, if_neg (show ¬ (m + 27 = m + 24 ∧ _) by omega), gA_sA, if_neg (show ¬ (m + 26 = m + 24 ∧ _) by omega)]
/-- messages on their way: the list of their slots, in the order of the row -/
def MLr (N : zN) (R : Nat → Int32) (S : zS) (l : List Nat) : Prop := l.Nodup ∧ (∀ q, q ∈ l ↔ q < 6 * nL N ∧ S 61 q = 1) ∧ R 2 = nI l.length ∧ ∀ k q, l[k]? = some q → R (1274 + 10 * k) = S 50 q ∧ R (1274 + 10 * k + 1) = nI (bo N (q / 3)) ∧ R (1274 + 10 * k + 2) = nI (po N (q / 3)) ∧ ∀ c, 3 ≤ c → c < 10 → R (1274 + 10 * k + c) = S (50 + c) q
/-- the slots of the messages on their way, as the reference has them -/
def lS (S : zS) : List Nat := (List.range (S 63 0).toNatClampNeg).map (fun k => (S 62 k).toNatClampNeg)
def setL (l : List Nat) (S : zS) : zS := fun f i => if f = 62 then nI (l.getD i 0) else if f = 63 then nI l.length else S f i
theorem lS_set {l : List Nat} {S : zS} (h1 : l.length < 2 ^ 31) (h2 : ∀ q ∈ l, q < 2 ^ 31) : lS (setL l S) = l := by
  unfold lS setL
  rw [if_neg (by omega), if_pos rfl, nI_clamp h1]
  apply List.ext_getElem
  · simp
  · intro i h3 h4
    simp only [List.getElem_map, List.getElem_range, ↓reduceIte]
    rw [List.getD_eq_getElem?_getD, List.getElem?_eq_getElem h4, Option.getD_some]
    exact nI_clamp (h2 _ (List.getElem_mem h4))
theorem lS_eq {S S' : zS} (h2 : ∀ i, S' 62 i = S 62 i) (h3 : S' 63 0 = S 63 0) : lS S' = lS S := by
  unfold lS
  rw [h3]
  simp only [h2]
def MR (N : zN) (R : Nat → Int32) (S : zS) : Prop :=
  (∀ e k, e < 2 * nL N → k < 17 → (11 ≤ k → S 10 e = 1) → R (100 + 18 * pl N e + k) = S k e)
  ∧ (∀ e k, e < 2 * nL N → 4 ≤ k → k ≤ 10 → S k e = 0 ∨ S k e = 1)
  ∧ (∀ b k, b < nB N → k < 11 → (3 ≤ k → k ≤ 6 → S 32 b = 1) → R (4 + 12 * b + k) = S (20 + k) b)
  ∧ (∀ b, b < nB N → (S 20 b = 0 ∨ S 20 b = 1) ∧ (S 22 b = 0 ∨ S 22 b = 1))
  ∧ (∀ l, l < nL N → R (964 + l) = S 40 l ∧ (S 40 l = 0 ∨ S 40 l = 1))
  ∧ (∀ h, h < nH N → R (978 + h) = S 41 h)
  ∧ (∀ b h, b < nB N → h < nH N → R (986 + 2 * (8 * b + h)) = S 42 (b * 8 + h) ∧ R (986 + 2 * (8 * b + h) + 1) = S 43 (b * 8 + h))
  ∧ (∀ b h, b < nB N → nH N ≤ h → h < 8 → S 42 (b * 8 + h) = -1)
  ∧ (R 0 = S 44 0 ∧ R 1 = S 44 1)
  ∧ (∃ t, t ≤ 40 ∧ R 3 = nI t ∧ (S 46 0 ≠ 1 → S 44 3 = nI t ∧ ∀ k, k < 4 * t → R (1114 + k) = S 45 k))
  ∧ ((∀ k, k < 6 → R (3000 + k) = S 48 k) ∧ ∀ b, b < 8 → R (3010 + b) = S 38 b)
  ∧ MLr N R S (lS S)
def MT (N : zN) (m B : Nat) (ν0 : zM) : Prop := NW N ∧ RI N m ν0 ∧ gF ν0 1244 m = nI B ∧ (B = 0 ∨ B = 2874)
def MS (N : zN) (m B : Nat) (ν0 ν : zM) (S : zS) : Prop := MR N (rw_ m B ν) S ∧ SO N S ∧ MT N m B ν0 ∧ FrM m B ν0 ν
section zMS
variable {N : zN} {m B : Nat} {ν0 ν : zM} {S : zS} {e b l h k : Nat}
theorem MS.nw (q : MS N m B ν0 ν S) : NW N := q.2.2.1.1
theorem MS.bs (q : MS N m B ν0 ν S) : gF ν 1244 m = nI B := (q.2.2.2.1 _ _).trans q.2.2.1.2.2.1
theorem MS.bb (q : MS N m B ν0 ν S) : B ≤ 2874 := by have := q.2.2.1.2.2.2; omega
theorem MS.ar (q : MS N m B ν0 ν S) {a : Nat} (j : Nat) (h1 : a ≠ m + 24) (h2 : a ≠ m + 26) (h3 : a ≠ m + 27) : gA ν a j = gA ν0 a j := q.2.2.2.2.2.2.1 a j (fun x => h1 x.1) h2 h3
theorem MS.its (q : MS N m B ν0 ν S) (hk : k < 2874) : f12_its m (nI k) ν = some (rw_ m B ν k) := by
  unfold f12_its
  rw [rw_lo (by omega), q.bs, nI_add, rA_nI (by have := q.bb; omega) (by omega)]; rfl
theorem MS.puts (q : MS N m B ν0 ν S) (hk : k < 2874) {v : Int32} : f12_puts m (nI k) v ν = some (sA ν (m + 24) (B + k) v) := by
  unfold f12_puts
  rw [q.bs, nI_add, wA_nI (by have := q.bb; omega) (by omega)]; rfl
theorem MS.g_b (q : MS N m B ν0 ν S) : gF ν 1201 m = nI (nB N) := (q.2.2.2.1 _ _).trans q.2.2.1.2.1.1.1
theorem MS.g_l (q : MS N m B ν0 ν S) : gF ν 1202 m = nI (nL N) := (q.2.2.2.1 _ _).trans q.2.2.1.2.1.1.2.1
theorem MS.g_h (q : MS N m B ν0 ν S) : gF ν 1203 m = nI (nH N) := (q.2.2.2.1 _ _).trans q.2.2.1.2.1.1.2.2.1
theorem MS.g_ag (q : MS N m B ν0 ν S) : gF ν 1204 m = nI (nAg N) := (q.2.2.2.1 _ _).trans q.2.2.1.2.1.1.2.2.2.1
theorem MS.g_dl (q : MS N m B ν0 ν S) : gF ν 1205 m = nI (nDl N) := (q.2.2.2.1 _ _).trans q.2.2.1.2.1.1.2.2.2.2
theorem MS.g_p (q : MS N m B ν0 ν S) (hb : b < nB N) : rA ν (m + 3) 8 (nI b) = some (nI (nP N b)) := by
  rw [rA_nI (q.nw.b_8 hb) (by omega), q.ar b (by omega) (by omega) (by omega)]; exact congrArg some (q.2.2.1.2.1.2.1 b hb)
theorem MS.g_lk (q : MS N m B ν0 ν S) (he : e < 2 * nL N) : rA ν (m + 10) 48 (nI (pl N e)) = some (nI (e / 2)) := by
  rw [rA_nI (q.nw.pl_48 he) (by omega), q.ar _ (by omega) (by omega) (by omega)]; exact congrArg some (q.2.2.1.2.1.2.2.1 e he).2.2.2.1
theorem MS.g_en (q : MS N m B ν0 ν S) (he : e < 2 * nL N) : rA ν (m + 11) 48 (nI (pl N e)) = some (nI (e % 2)) := by
  rw [rA_nI (q.nw.pl_48 he) (by omega), q.ar _ (by omega) (by omega) (by omega)]; exact congrArg some (q.2.2.1.2.1.2.2.1 e he).2.2.2.2
theorem MS.g_bo (q : MS N m B ν0 ν S) (he : e < 2 * nL N) : rA ν (m + 4) 56 (nI (2 * e)) = some (nI (bo N e)) := by
  rw [rA_nI (by have := q.nw.e28 he; omega) (by omega), q.ar _ (by omega) (by omega) (by omega)]; exact congrArg some (q.2.2.1.2.1.2.2.1 e he).1
theorem MS.g_po (q : MS N m B ν0 ν S) (he : e < 2 * nL N) : rA ν (m + 4) 56 (nI (2 * e + 1)) = some (nI (po N e)) := by
  rw [rA_nI (by have := q.nw.e28 he; omega) (by omega), q.ar _ (by omega) (by omega) (by omega)]; exact congrArg some (q.2.2.1.2.1.2.2.1 e he).2.1
theorem MS.g_te (q : MS N m B ν0 ν S) (he : e < 2 * nL N) : rA ν (m + 5) 28 (nI e) = some (nI (tE N e)) := by
  rw [rA_nI (q.nw.e28 he) (by omega), q.ar _ (by omega) (by omega) (by omega)]; exact congrArg some (q.2.2.1.2.1.2.2.1 e he).2.2.1
theorem MS.g_cst (q : MS N m B ν0 ν S) (hl : l < nL N) : rA ν (m + 6) 14 (nI l) = some (nI (cst N l)) := by
  rw [rA_nI (by have := q.nw.l14; omega) (by omega), q.ar _ (by omega) (by omega) (by omega)]; exact congrArg some (q.2.2.1.2.1.2.2.2.1 l hl).1
theorem MS.g_tks (q : MS N m B ν0 ν S) (hl : l < nL N) : rA ν (m + 7) 14 (nI l) = some (nI (tks N l)) := by
  rw [rA_nI (by have := q.nw.l14; omega) (by omega), q.ar _ (by omega) (by omega) (by omega)]; exact congrArg some (q.2.2.1.2.1.2.2.2.1 l hl).2
theorem MS.ob (q : MS N m B ν0 ν S) (he : e < 2 * nL N) : f12_otherBridge m (nI (pl N e)) ν = some (nI (bo N (fe e))) := by
  unfold f12_otherBridge
  rw [q.g_lk he, Option.bind_some, q.g_en he, Option.bind_some]
  have : (((4 : Int32) * nI (e / 2)) + 2) - (2 * nI (e % 2)) = nI (2 * fe e) := by
    show ((nI 4 * nI (e / 2)) + nI 2) - (nI 2 * nI (e % 2)) = _
    rw [pk_mul, nI_add, pk_mul, pk_sub (by omega)]
    congr 1
    unfold fe; split <;> omega
  rw [this, q.g_bo (fe_lt he)]; rfl
theorem MS.op (q : MS N m B ν0 ν S) (he : e < 2 * nL N) : f12_otherPort m (nI (pl N e)) ν = some (nI (pl N (fe e))) := by
  unfold f12_otherPort
  rw [q.ob he, Option.bind_some, q.g_lk he, Option.bind_some, q.g_en he, Option.bind_some]
  have : (((4 : Int32) * nI (e / 2)) + 3) - (2 * nI (e % 2)) = nI (2 * fe e + 1) := by
    show ((nI 4 * nI (e / 2)) + nI 3) - (nI 2 * nI (e % 2)) = _
    rw [pk_mul, nI_add, pk_mul, pk_sub (by omega)]
    congr 1
    unfold fe; split <;> omega
  rw [this, q.g_po (fe_lt he), Option.bind_some]
  unfold f12_placeOf pl
  rw [show (6 : Int32) = nI 6 from rfl, pk_mul, nI_add]; rfl
theorem MS.poe0 (q : MS N m B ν0 ν S) (hl : l < nL N) : f12_portOfEnd m (nI l) 0 ν = some (nI (pl N (2 * l))) := by
  unfold f12_portOfEnd
  have a1 : ((4 : Int32) * nI l) + (2 * 0) = nI (2 * (2 * l)) := by
    show (nI 4 * nI l) + (nI 2 * nI 0) = _
    rw [pk_mul, pk_mul, nI_add]; congr 1; omega
  rw [a1, q.g_bo (by omega), Option.bind_some, nI_1, q.g_po (by omega), Option.bind_some]
  unfold f12_placeOf pl
  rw [show (6 : Int32) = nI 6 from rfl, pk_mul, nI_add]; rfl
theorem MS.poe1 (q : MS N m B ν0 ν S) (hl : l < nL N) : f12_portOfEnd m (nI l) 1 ν = some (nI (pl N (2 * l + 1))) := by
  unfold f12_portOfEnd
  have a1 : ((4 : Int32) * nI l) + (2 * 1) = nI (2 * (2 * l + 1)) := by
    show (nI 4 * nI l) + (nI 2 * nI 1) = _
    rw [pk_mul, pk_mul, nI_add]; congr 1; omega
  rw [a1, q.g_bo (by omega), Option.bind_some, nI_1, q.g_po (by omega), Option.bind_some]
  unfold f12_placeOf pl
  rw [show (6 : Int32) = nI 6 from rfl, pk_mul, nI_add]; rfl
theorem MS.ends0 (q : MS N m B ν0 ν S) (hl : l < nL N) : rA ν (m + 4) 56 (4 * nI l) = some (nI (bo N (2 * l))) := by
  have a1 : (4 : Int32) * nI l = nI (2 * (2 * l)) := by
    show nI 4 * nI l = _
    rw [pk_mul]; congr 1; omega
  rw [a1, q.g_bo (by omega)]
theorem MS.ends1 (q : MS N m B ν0 ν S) (hl : l < nL N) : rA ν (m + 4) 56 (4 * nI l + 1) = some (nI (po N (2 * l))) := by
  have a1 : (4 : Int32) * nI l + 1 = nI (2 * (2 * l) + 1) := by
    show nI 4 * nI l + nI 1 = _
    rw [pk_mul, nI_add]; congr 1; omega
  rw [a1, q.g_po (by omega)]
theorem MS.ends2 (q : MS N m B ν0 ν S) (hl : l < nL N) : rA ν (m + 4) 56 (4 * nI l + 2) = some (nI (bo N (2 * l + 1))) := by
  have a1 : (4 : Int32) * nI l + 2 = nI (2 * (2 * l + 1)) := by
    show nI 4 * nI l + nI 2 = _
    rw [pk_mul, nI_add]; congr 1; omega
  rw [a1, q.g_bo (by omega)]
theorem MS.ends3 (q : MS N m B ν0 ν S) (hl : l < nL N) : rA ν (m + 4) 56 (4 * nI l + 3) = some (nI (po N (2 * l + 1))) := by
  have a1 : (4 : Int32) * nI l + 3 = nI (2 * (2 * l + 1) + 1) := by
    show nI 4 * nI l + nI 3 = _
    rw [pk_mul, nI_add]; congr 1; omega
  rw [a1, q.g_po (by omega)]
theorem pl_add (b p : Nat) : f12_placeOf (nI b) (nI p) ν = some (nI (6 * b + p)) := by
  unfold f12_placeOf
  rw [show (6 : Int32) = nI 6 from rfl, pk_mul, nI_add]
theorem MS.portR (q : MS N m B ν0 ν S) (hp : l < 48) (hk : k < 18) : f12_portOf m (nI l) (nI k) ν = some (rw_ m B ν (100 + 18 * l + k)) := by
  unfold f12_portOf
  have : ((100 : Int32) + 18 * nI l) + nI k = nI (100 + 18 * l + k) := by
    show (nI 100 + nI 18 * nI l) + nI k = _
    rw [pk_mul, nI_add, nI_add]
  rw [this, q.its (by omega)]; rfl
theorem MS.setsR (q : MS N m B ν0 ν S) (hp : l < 48) (hk : k < 18) {v : Int32} : f12_sets m (nI l) (nI k) v ν = some (sA ν (m + 24) (B + (100 + 18 * l + k)) v) := by
  unfold f12_sets
  have : ((100 : Int32) + 18 * nI l) + nI k = nI (100 + 18 * l + k) := by
    show (nI 100 + nI 18 * nI l) + nI k = _
    rw [pk_mul, nI_add, nI_add]
  rw [this, q.puts (by omega)]; rfl
theorem bAt (b k : Nat) : f12_bridgeAt (nI b) (nI k) ν = some (nI (4 + 12 * b + k)) := by
  unfold f12_bridgeAt
  show some ((nI 4 + nI 12 * nI b) + nI k) = _
  rw [pk_mul, nI_add, nI_add]
theorem MS.ofR (q : MS N m B ν0 ν S) (hb : b < 8) (hk : k < 12) : f12_of m (nI b) (nI k) ν = some (rw_ m B ν (4 + 12 * b + k)) := by
  unfold f12_of
  rw [bAt, Option.bind_some, q.its (by omega)]; rfl

theorem MS.p0 (q : MS N m B ν0 ν S) (he : e < 2 * nL N) : f12_portOf m (nI (pl N e)) 0 ν = some (S 0 e) := (q.portR (k := 0) (q.nw.pl_48 he) (by omega)).trans (congrArg some (q.1.1 e 0 he (by omega) (fun x => absurd x (by omega))))
theorem MS.p1 (q : MS N m B ν0 ν S) (he : e < 2 * nL N) : f12_portOf m (nI (pl N e)) 1 ν = some (S 1 e) := (q.portR (k := 1) (q.nw.pl_48 he) (by omega)).trans (congrArg some (q.1.1 e 1 he (by omega) (fun x => absurd x (by omega))))
theorem MS.p2 (q : MS N m B ν0 ν S) (he : e < 2 * nL N) : f12_portOf m (nI (pl N e)) 2 ν = some (S 2 e) := (q.portR (k := 2) (q.nw.pl_48 he) (by omega)).trans (congrArg some (q.1.1 e 2 he (by omega) (fun x => absurd x (by omega))))
theorem MS.p3 (q : MS N m B ν0 ν S) (he : e < 2 * nL N) : f12_portOf m (nI (pl N e)) 3 ν = some (S 3 e) := (q.portR (k := 3) (q.nw.pl_48 he) (by omega)).trans (congrArg some (q.1.1 e 3 he (by omega) (fun x => absurd x (by omega))))
theorem MS.p4 (q : MS N m B ν0 ν S) (he : e < 2 * nL N) : f12_portOf m (nI (pl N e)) 4 ν = some (S 4 e) := (q.portR (k := 4) (q.nw.pl_48 he) (by omega)).trans (congrArg some (q.1.1 e 4 he (by omega) (fun x => absurd x (by omega))))
theorem MS.p5 (q : MS N m B ν0 ν S) (he : e < 2 * nL N) : f12_portOf m (nI (pl N e)) 5 ν = some (S 5 e) := (q.portR (k := 5) (q.nw.pl_48 he) (by omega)).trans (congrArg some (q.1.1 e 5 he (by omega) (fun x => absurd x (by omega))))
theorem MS.p6 (q : MS N m B ν0 ν S) (he : e < 2 * nL N) : f12_portOf m (nI (pl N e)) 6 ν = some (S 6 e) := (q.portR (k := 6) (q.nw.pl_48 he) (by omega)).trans (congrArg some (q.1.1 e 6 he (by omega) (fun x => absurd x (by omega))))
theorem MS.p7 (q : MS N m B ν0 ν S) (he : e < 2 * nL N) : f12_portOf m (nI (pl N e)) 7 ν = some (S 7 e) := (q.portR (k := 7) (q.nw.pl_48 he) (by omega)).trans (congrArg some (q.1.1 e 7 he (by omega) (fun x => absurd x (by omega))))
theorem MS.p8 (q : MS N m B ν0 ν S) (he : e < 2 * nL N) : f12_portOf m (nI (pl N e)) 8 ν = some (S 8 e) := (q.portR (k := 8) (q.nw.pl_48 he) (by omega)).trans (congrArg some (q.1.1 e 8 he (by omega) (fun x => absurd x (by omega))))
theorem MS.p9 (q : MS N m B ν0 ν S) (he : e < 2 * nL N) : f12_portOf m (nI (pl N e)) 9 ν = some (S 9 e) := (q.portR (k := 9) (q.nw.pl_48 he) (by omega)).trans (congrArg some (q.1.1 e 9 he (by omega) (fun x => absurd x (by omega))))
theorem MS.p10 (q : MS N m B ν0 ν S) (he : e < 2 * nL N) : f12_portOf m (nI (pl N e)) 10 ν = some (S 10 e) := (q.portR (k := 10) (q.nw.pl_48 he) (by omega)).trans (congrArg some (q.1.1 e 10 he (by omega) (fun x => absurd x (by omega))))
theorem MS.p11 (q : MS N m B ν0 ν S) (he : e < 2 * nL N) (hh : S 10 e = 1) : f12_portOf m (nI (pl N e)) 11 ν = some (S 11 e) := (q.portR (k := 11) (q.nw.pl_48 he) (by omega)).trans (congrArg some (q.1.1 e 11 he (by omega) (fun _ => hh)))
theorem MS.p12 (q : MS N m B ν0 ν S) (he : e < 2 * nL N) (hh : S 10 e = 1) : f12_portOf m (nI (pl N e)) 12 ν = some (S 12 e) := (q.portR (k := 12) (q.nw.pl_48 he) (by omega)).trans (congrArg some (q.1.1 e 12 he (by omega) (fun _ => hh)))
theorem MS.p13 (q : MS N m B ν0 ν S) (he : e < 2 * nL N) (hh : S 10 e = 1) : f12_portOf m (nI (pl N e)) 13 ν = some (S 13 e) := (q.portR (k := 13) (q.nw.pl_48 he) (by omega)).trans (congrArg some (q.1.1 e 13 he (by omega) (fun _ => hh)))
theorem MS.p14 (q : MS N m B ν0 ν S) (he : e < 2 * nL N) (hh : S 10 e = 1) : f12_portOf m (nI (pl N e)) 14 ν = some (S 14 e) := (q.portR (k := 14) (q.nw.pl_48 he) (by omega)).trans (congrArg some (q.1.1 e 14 he (by omega) (fun _ => hh)))
theorem MS.p15 (q : MS N m B ν0 ν S) (he : e < 2 * nL N) (hh : S 10 e = 1) : f12_portOf m (nI (pl N e)) 15 ν = some (S 15 e) := (q.portR (k := 15) (q.nw.pl_48 he) (by omega)).trans (congrArg some (q.1.1 e 15 he (by omega) (fun _ => hh)))
theorem MS.p16 (q : MS N m B ν0 ν S) (he : e < 2 * nL N) (hh : S 10 e = 1) : f12_portOf m (nI (pl N e)) 16 ν = some (S 16 e) := (q.portR (k := 16) (q.nw.pl_48 he) (by omega)).trans (congrArg some (q.1.1 e 16 he (by omega) (fun _ => hh)))
theorem MS.b0 (q : MS N m B ν0 ν S) (hb : b < nB N) : f12_of m (nI b) 0 ν = some (S 20 b) := (q.ofR (k := 0) (q.nw.b_8 hb) (by omega)).trans (congrArg some (q.1.2.2.1 b 0 hb (by omega) (fun x y => absurd (And.intro x y) (by omega))))
theorem MS.b1 (q : MS N m B ν0 ν S) (hb : b < nB N) : f12_of m (nI b) 1 ν = some (S 21 b) := (q.ofR (k := 1) (q.nw.b_8 hb) (by omega)).trans (congrArg some (q.1.2.2.1 b 1 hb (by omega) (fun x y => absurd (And.intro x y) (by omega))))
theorem MS.b2 (q : MS N m B ν0 ν S) (hb : b < nB N) : f12_of m (nI b) 2 ν = some (S 22 b) := (q.ofR (k := 2) (q.nw.b_8 hb) (by omega)).trans (congrArg some (q.1.2.2.1 b 2 hb (by omega) (fun x y => absurd (And.intro x y) (by omega))))
theorem MS.b3 (q : MS N m B ν0 ν S) (hb : b < nB N) (hc : S 32 b = 1) : f12_of m (nI b) 3 ν = some (S 23 b) := (q.ofR (k := 3) (q.nw.b_8 hb) (by omega)).trans (congrArg some (q.1.2.2.1 b 3 hb (by omega) (fun _ _ => hc)))
theorem MS.b4 (q : MS N m B ν0 ν S) (hb : b < nB N) (hc : S 32 b = 1) : f12_of m (nI b) 4 ν = some (S 24 b) := (q.ofR (k := 4) (q.nw.b_8 hb) (by omega)).trans (congrArg some (q.1.2.2.1 b 4 hb (by omega) (fun _ _ => hc)))
theorem MS.b5 (q : MS N m B ν0 ν S) (hb : b < nB N) (hc : S 32 b = 1) : f12_of m (nI b) 5 ν = some (S 25 b) := (q.ofR (k := 5) (q.nw.b_8 hb) (by omega)).trans (congrArg some (q.1.2.2.1 b 5 hb (by omega) (fun _ _ => hc)))
theorem MS.b6 (q : MS N m B ν0 ν S) (hb : b < nB N) (hc : S 32 b = 1) : f12_of m (nI b) 6 ν = some (S 26 b) := (q.ofR (k := 6) (q.nw.b_8 hb) (by omega)).trans (congrArg some (q.1.2.2.1 b 6 hb (by omega) (fun _ _ => hc)))
theorem MS.b7 (q : MS N m B ν0 ν S) (hb : b < nB N) : f12_of m (nI b) 7 ν = some (S 27 b) := (q.ofR (k := 7) (q.nw.b_8 hb) (by omega)).trans (congrArg some (q.1.2.2.1 b 7 hb (by omega) (fun x y => absurd (And.intro x y) (by omega))))
theorem MS.b8 (q : MS N m B ν0 ν S) (hb : b < nB N) : f12_of m (nI b) 8 ν = some (S 28 b) := (q.ofR (k := 8) (q.nw.b_8 hb) (by omega)).trans (congrArg some (q.1.2.2.1 b 8 hb (by omega) (fun x y => absurd (And.intro x y) (by omega))))
theorem MS.b9 (q : MS N m B ν0 ν S) (hb : b < nB N) : f12_of m (nI b) 9 ν = some (S 29 b) := (q.ofR (k := 9) (q.nw.b_8 hb) (by omega)).trans (congrArg some (q.1.2.2.1 b 9 hb (by omega) (fun x y => absurd (And.intro x y) (by omega))))
theorem MS.b10 (q : MS N m B ν0 ν S) (hb : b < nB N) : f12_of m (nI b) 10 ν = some (S 30 b) := (q.ofR (k := 10) (q.nw.b_8 hb) (by omega)).trans (congrArg some (q.1.2.2.1 b 10 hb (by omega) (fun x y => absurd (And.intro x y) (by omega))))
theorem MS.isb (q : MS N m B ν0 ν S) (he : e < 2 * nL N) (h4 : 4 ≤ k) (h10 : k ≤ 10) : S k e = 0 ∨ S k e = 1 := q.1.2.1 e k he h4 h10
theorem c01 {x : Int32} (h : x = 0 ∨ x = 1) : ceq x 0 = !(ceq x 1) := by
  rcases h with h | h <;> rw [h] <;> decide
theorem MS.on_ (q : MS N m B ν0 ν S) (hb : b < nB N) : f12_isOn m (nI b) ν = some (ceq (S 20 b) 1) := by
  unfold f12_isOn
  rw [q.b0 hb]; rfl
theorem MS.id_ (q : MS N m B ν0 ν S) (hb : b < nB N) : f12_idOf m (nI b) ν = some (16 * S 21 b + nI b) := by
  unfold f12_idOf
  rw [q.b1 hb]; rfl
theorem MS.lk (q : MS N m B ν0 ν S) (hl : l < nL N) : f12_its m (964 + nI l) ν = some (S 40 l) := by
  have : (964 : Int32) + nI l = nI (964 + l) := by
    show nI 964 + nI l = _
    rw [nI_add]
  rw [this, q.its (by have := q.nw.l14; omega), (q.1.2.2.2.2.1 l hl).1]
def upl (N : zN) (S : zS) (l : Nat) : Bool := (ceq (S 40 l) 1 && ceq (S 20 (bo N (2 * l))) 1) && ceq (S 20 (bo N (2 * l + 1))) 1
def up (N : zN) (S : zS) (e : Nat) : Bool := (ceq (S 40 (e / 2)) 1 && ceq (S 20 (bo N e)) 1) && ceq (S 20 (bo N (fe e))) 1
theorem up_l (e : Nat) : up N S e = upl N S (e / 2) := by
  unfold up upl
  have h1 : e = 2 * (e / 2) ∨ e = 2 * (e / 2) + 1 := by omega
  rcases h1 with h1 | h1
  · have h2 : fe e = 2 * (e / 2) + 1 := by unfold fe; split <;> omega
    rw [h2, ← h1]
  · have h2 : fe e = 2 * (e / 2) := by unfold fe; split <;> omega
    rw [h2, ← h1]
    cases ceq (S 40 (e / 2)) 1 <;> cases ceq (S 20 (bo N e)) 1 <;> cases ceq (S 20 (bo N (2 * (e / 2)))) 1 <;> rfl
theorem up_fe (e : Nat) : up N S (fe e) = up N S e := by rw [up_l, up_l, fe_hf]
theorem zand {a b : Bool} : (if a = true then some b else some false) = some (a && b) := by cases a <;> rfl
theorem zor {a b : Bool} : (if a = true then some true else some b) = some (a || b) := by cases a <;> rfl
theorem MS.upl_ (q : MS N m B ν0 ν S) (hl : l < nL N) : f12_isUpLink m (nI l) ν = some (upl N S l) := by
  unfold f12_isUpLink upl
  have h0 : 2 * l < 2 * nL N := by omega
  have h1 : 2 * l + 1 < 2 * nL N := by omega
  simp only [q.lk hl, q.ends0 hl, q.ends2 hl, q.on_ (q.nw.bo_b h0), q.on_ (q.nw.bo_b h1), Option.bind_some, zand]
theorem MS.up_ (q : MS N m B ν0 ν S) (he : e < 2 * nL N) : f12_isUp m (nI (pl N e)) ν = some (up N S e) := by
  unfold f12_isUp
  rw [q.g_lk he, Option.bind_some, q.upl_ (by omega), up_l]; rfl
theorem MS.opl_ (q : MS N m B ν0 ν S) (hl : l < nL N) : f12_isOpenLink m (nI l) ν = some (ceq (S 1 (2 * l)) 2 && ceq (S 1 (2 * l + 1)) 2) := by
  unfold f12_isOpenLink
  have h0 : 2 * l < 2 * nL N := by omega
  have h1 : 2 * l + 1 < 2 * nL N := by omega
  have e0 : f12_placeOf (nI (bo N (2 * l))) (nI (po N (2 * l))) ν = some (nI (pl N (2 * l))) := pl_add _ _
  have e1 : f12_placeOf (nI (bo N (2 * l + 1))) (nI (po N (2 * l + 1))) ν = some (nI (pl N (2 * l + 1))) := pl_add _ _
  rw [q.ends0 hl, Option.bind_some, q.ends1 hl, Option.bind_some, e0, Option.bind_some, q.p1 h0, Option.bind_some, Option.bind_some, q.ends2 hl, Option.bind_some, q.ends3 hl, Option.bind_some, e1, Option.bind_some, q.p1 h1, Option.bind_some, zand, Option.bind_some]
/-! writes -/
theorem MLr.keep {R R' : Nat → Int32} {S' : zS} (h : MLr N R S (lS S)) (h2 : R' 2 = R 2) (h3 : ∀ k, 1274 ≤ k → R' k = R k) (h4 : ∀ c q, 50 ≤ c → c ≤ 63 → c ≠ 60 → S' c q = S c q) : MLr N R' S' (lS S') := by
  rw [lS_eq (S := S) (S' := S') (fun i => h4 62 i (by omega) (by omega) (by omega)) (h4 63 0 (by omega) (by omega) (by omega))]
  refine ⟨h.1, fun q => by rw [h4 61 q (by omega) (by omega) (by omega)]; exact h.2.1 q, h2.trans h.2.2.1, fun k q hk => ?_⟩
  obtain ⟨a1, a2, a3, a4⟩ := h.2.2.2 k q hk
  refine ⟨by rw [h3 _ (by omega), h4 50 q (by omega) (by omega) (by omega)]; exact a1, by rw [h3 _ (by omega)]; exact a2, by rw [h3 _ (by omega)]; exact a3, fun c c1 c2 => by rw [h3 _ (by omega), h4 (50 + c) q (by omega) (by omega) (by omega)]; exact a4 c c1 c2⟩
theorem pl_ne (q : NW N) {e e' : Nat} (he : e < 2 * nL N) (he' : e' < 2 * nL N) (hne : e' ≠ e) : pl N e' ≠ pl N e := fun x => hne (q.pl_i he' he x)
/-- a port's column, but the one that says whether it holds -/
theorem MS.w_p (q : MS N m B ν0 ν S) (he : e < 2 * nL N) (hk : k < 17) (h10 : k ≠ 10) {v : Int32} (hv : 4 ≤ k → k ≤ 9 → v = 0 ∨ v = 1) : MS N m B ν0 (sA ν (m + 24) (B + (100 + 18 * pl N e + k)) v) (zu S k e v) := by
  have hp := q.nw.pl_48 he
  have g : ∀ k', (k' < 100 ∨ 964 ≤ k') → rw_ m B (sA ν (m + 24) (B + (100 + 18 * pl N e + k)) v) k' = rw_ m B ν k' := fun k' hk' => by rw [rw_w _ _ _ _ _ _ (by omega), if_neg (by omega)]
  have z : ∀ f i, 17 ≤ f → zu S k e v f i = S f i := fun f i hf => if_neg (by omega)
  have z10 : ∀ i, zu S k e v 10 i = S 10 i := fun i => if_neg (by omega)
  obtain ⟨⟨m1, m2, m3, m4, m5, m6, m7, m8, m9, m10, mw, m11⟩, hso, hmt, hfr⟩ := q
  have nw := hmt.1
  refine ⟨⟨?_, ?_, ?_, ?_, ?_, ?_, ?_, ?_, ?_, ?_, ?_, ?_⟩, ?_, hmt, hfr.wA (by omega)⟩
  · intro e' k' he' hk' hh
    have hp' := nw.pl_48 he'
    rw [z10] at hh
    rw [rw_w _ _ _ _ _ _ (by omega)]
    show _ = (if k' = k ∧ e' = e then v else S k' e')
    by_cases x : k' = k ∧ e' = e
    · rw [if_pos x, if_pos (by rw [x.1, x.2])]
    · rw [if_neg x, if_neg (fun y => x ?_)]
      · exact m1 e' k' he' hk' hh
      · by_cases hne : e' = e
        · subst hne; exact ⟨by omega, rfl⟩
        · have := pl_ne nw he he' hne; omega
  · intro e' k' he' h4 h5
    show (if k' = k ∧ e' = e then v else S k' e') = 0 ∨ (if k' = k ∧ e' = e then v else S k' e') = 1
    by_cases x : k' = k ∧ e' = e
    · rw [if_pos x]; exact hv (by omega) (by omega)
    · rw [if_neg x]; exact m2 e' k' he' h4 h5
  · intro b k' hb hk' hc
    have := nw.b_8 hb
    rw [z 32 b (by omega)] at hc
    rw [g _ (by omega), z _ _ (by omega)]; exact m3 b k' hb hk' hc
  · intro b hb; rw [z _ _ (by omega), z _ _ (by omega)]; exact m4 b hb
  · intro l hl; rw [z _ _ (by omega), g _ (by omega)]; exact m5 l hl
  · intro h hh; rw [z _ _ (by omega), g _ (by omega)]; exact m6 h hh
  · intro b h hb hh; rw [z _ _ (by omega), z _ _ (by omega), g _ (by omega), g _ (by omega)]; exact m7 b h hb hh
  · intro b h hb h1 h2; rw [z _ _ (by omega)]; exact m8 b h hb h1 h2
  · rw [z _ _ (by omega), z _ _ (by omega), g _ (by omega), g _ (by omega)]; exact m9
  · obtain ⟨t, t1, t2, t3⟩ := m10
    refine ⟨t, t1, by rw [g _ (by omega)]; exact t2, fun hb => ?_⟩
    rw [z _ _ (by omega)] at hb
    obtain ⟨t4, t5⟩ := t3 hb
    exact ⟨by rw [z _ _ (by omega)]; exact t4, fun k hk => by rw [z _ _ (by omega), g _ (by omega)]; exact t5 k hk⟩
  · exact ⟨fun k hk => by rw [g _ (by omega), z _ _ (by omega)]; exact mw.1 k hk, fun b hb => by rw [g _ (by omega), z _ _ (by omega)]; exact mw.2 b hb⟩
  · exact m11.keep (g _ (by omega)) (fun k hk => g _ (by omega)) (fun c q h1 h2 _ => z _ _ (by omega))
  · exact ⟨fun b h hb hh => by rw [z _ _ (by omega)]; exact hso.1 b h hb hh, fun h hh => by rw [z _ _ (by omega)]; exact hso.2 h hh⟩
theorem MS.w_b (q : MS N m B ν0 ν S) (hb : b < nB N) (hk : k < 11) (hk2 : k < 3 ∨ 7 ≤ k) {v : Int32} (hv : k = 0 ∨ k = 2 → v = 0 ∨ v = 1) : MS N m B ν0 (sA ν (m + 24) (B + (4 + 12 * b + k)) v) (zu S (20 + k) b v) := by
  have b8 := q.nw.b8
  have l14 := q.nw.l14
  have h8 := q.nw.h8
  have g : ∀ k', k' ≠ 4 + 12 * b + k → rw_ m B (sA ν (m + 24) (B + (4 + 12 * b + k)) v) k' = rw_ m B ν k' := fun k' hk' => by rw [rw_w _ _ _ _ _ _ (by omega), if_neg hk']
  have z : ∀ f i, f ≠ (20 + k) → zu S (20 + k) b v f i = S f i := fun f i hf => if_neg (fun x => hf x.1)
  obtain ⟨⟨m1, m2, m3, m4, m5, m6, m7, m8, m9, m10, mw, m11⟩, hso, hmt, hfr⟩ := q
  have nw := hmt.1
  refine ⟨⟨?_, ?_, ?_, ?_, ?_, ?_, ?_, ?_, ?_, ?_, ?_, ?_⟩, ?_, hmt, hfr.wA (by omega)⟩
  · intro e' k' he' hk' hh
    have hp' := nw.pl_48 he'
    rw [z 10 _ (by omega)] at hh
    rw [g _ (by omega), z _ _ (by omega)]; exact m1 e' k' he' hk' hh
  · intro e' k' he' h4 h5
    rw [z _ _ (by omega)]; exact m2 e' k' he' h4 h5
  · intro b' k' hb' hk' hc
    have h1 := nw.b_8 hb'
    rw [z 32 b' (by omega)] at hc
    rw [rw_w _ _ _ _ _ _ (by omega)]
    show _ = (if 20 + k' = 20 + k ∧ b' = b then v else S (20 + k') b')
    by_cases x : k' = k ∧ b' = b
    · rw [if_pos (by omega), if_pos (by omega)]
    · rw [if_neg (by omega), if_neg (by omega)]; exact m3 b' k' hb' hk' hc
  · intro b' hb'
    obtain ⟨x1, x2⟩ := m4 b' hb'
    constructor
    · show (if 20 = 20 + k ∧ b' = b then v else S 20 b') = 0 ∨ (if 20 = 20 + k ∧ b' = b then v else S 20 b') = 1
      by_cases x : 20 = 20 + k ∧ b' = b
      · rw [if_pos x]; exact hv (by omega)
      · rw [if_neg x]; exact x1
    · show (if 22 = 20 + k ∧ b' = b then v else S 22 b') = 0 ∨ (if 22 = 20 + k ∧ b' = b then v else S 22 b') = 1
      by_cases x : 22 = 20 + k ∧ b' = b
      · rw [if_pos x]; exact hv (by omega)
      · rw [if_neg x]; exact x2
  · intro l' hl'; rw [z _ _ (by omega), g _ (by omega)]; exact m5 l' hl'
  · intro h' hh'; rw [z _ _ (by omega), g _ (by omega)]; exact m6 h' hh'
  · intro b' h' hb' hh'; have := nw.b_8 hb'; rw [z _ _ (by omega), z _ _ (by omega), g _ (by omega), g _ (by omega)]; exact m7 b' h' hb' hh'
  · intro b' h' hb' h1 h2; rw [z _ _ (by omega)]; exact m8 b' h' hb' h1 h2
  · rw [z _ _ (by omega), z _ _ (by omega), g _ (by omega), g _ (by omega)]; exact m9
  · obtain ⟨t, t1, t2, t3⟩ := m10
    refine ⟨t, t1, by rw [g _ (by omega)]; exact t2, fun hb => ?_⟩
    rw [z _ _ (by omega)] at hb
    obtain ⟨t4, t5⟩ := t3 hb
    exact ⟨by rw [z _ _ (by omega)]; exact t4, fun k hk => by rw [z _ _ (by omega), g _ (by omega)]; exact t5 k hk⟩
  · exact ⟨fun k hk => by rw [g _ (by omega), z _ _ (by omega)]; exact mw.1 k hk, fun b hb => by rw [g _ (by omega), z _ _ (by omega)]; exact mw.2 b hb⟩
  · exact m11.keep (g _ (by omega)) (fun k hk => g _ (by omega)) (fun c q h1 h2 _ => z _ _ (by omega))
  · exact ⟨fun b h hb hh => by rw [z _ _ (by omega)]; exact hso.1 b h hb hh, fun h hh => by rw [z _ _ (by omega)]; exact hso.2 h hh⟩
theorem MS.w_l (q : MS N m B ν0 ν S) (hl : l < nL N) {v : Int32} (hv : v = 0 ∨ v = 1) : MS N m B ν0 (sA ν (m + 24) (B + (964 + l)) v) (zu S 40 l v) := by
  have b8 := q.nw.b8
  have l14 := q.nw.l14
  have h8 := q.nw.h8
  have g : ∀ k', k' ≠ 964 + l → rw_ m B (sA ν (m + 24) (B + (964 + l)) v) k' = rw_ m B ν k' := fun k' hk' => by rw [rw_w _ _ _ _ _ _ (by omega), if_neg hk']
  have z : ∀ f i, f ≠ 40 → zu S 40 l v f i = S f i := fun f i hf => if_neg (fun x => hf x.1)
  obtain ⟨⟨m1, m2, m3, m4, m5, m6, m7, m8, m9, m10, mw, m11⟩, hso, hmt, hfr⟩ := q
  have nw := hmt.1
  refine ⟨⟨?_, ?_, ?_, ?_, ?_, ?_, ?_, ?_, ?_, ?_, ?_, ?_⟩, ?_, hmt, hfr.wA (by omega)⟩
  · intro e' k' he' hk' hh
    have hp' := nw.pl_48 he'
    rw [z 10 _ (by omega)] at hh
    rw [g _ (by omega), z _ _ (by omega)]; exact m1 e' k' he' hk' hh
  · intro e' k' he' h4 h5
    rw [z _ _ (by omega)]; exact m2 e' k' he' h4 h5
  · intro b' k' hb' hk' hc
    have := nw.b_8 hb'
    rw [z 32 b' (by omega)] at hc
    rw [g _ (by omega), z _ _ (by omega)]; exact m3 b' k' hb' hk' hc
  · intro b' hb'; rw [z _ _ (by omega), z _ _ (by omega)]; exact m4 b' hb'
  · intro l' hl'
    rw [rw_w _ _ _ _ _ _ (by omega)]
    show (_ = (if 40 = 40 ∧ l' = l then v else S 40 l')) ∧ ((if 40 = 40 ∧ l' = l then v else S 40 l') = 0 ∨ (if 40 = 40 ∧ l' = l then v else S 40 l') = 1)
    by_cases x : l' = l
    · rw [if_pos (by omega), if_pos ⟨rfl, x⟩]; exact ⟨rfl, hv⟩
    · rw [if_neg (by omega), if_neg (fun y => x y.2)]; exact m5 l' hl'
  · intro h' hh'; rw [z _ _ (by omega), g _ (by omega)]; exact m6 h' hh'
  · intro b' h' hb' hh'; have := nw.b_8 hb'; rw [z _ _ (by omega), z _ _ (by omega), g _ (by omega), g _ (by omega)]; exact m7 b' h' hb' hh'
  · intro b' h' hb' h1 h2; rw [z _ _ (by omega)]; exact m8 b' h' hb' h1 h2
  · rw [z _ _ (by omega), z _ _ (by omega), g _ (by omega), g _ (by omega)]; exact m9
  · obtain ⟨t, t1, t2, t3⟩ := m10
    refine ⟨t, t1, by rw [g _ (by omega)]; exact t2, fun hb => ?_⟩
    rw [z _ _ (by omega)] at hb
    obtain ⟨t4, t5⟩ := t3 hb
    exact ⟨by rw [z _ _ (by omega)]; exact t4, fun k hk => by rw [z _ _ (by omega), g _ (by omega)]; exact t5 k hk⟩
  · exact ⟨fun k hk => by rw [g _ (by omega), z _ _ (by omega)]; exact mw.1 k hk, fun b hb => by rw [g _ (by omega), z _ _ (by omega)]; exact mw.2 b hb⟩
  · exact m11.keep (g _ (by omega)) (fun k hk => g _ (by omega)) (fun c q h1 h2 _ => z _ _ (by omega))
  · exact ⟨fun b h hb hh => by rw [z _ _ (by omega)]; exact hso.1 b h hb hh, fun h hh => by rw [z _ _ (by omega)]; exact hso.2 h hh⟩
theorem MS.w_h (q : MS N m B ν0 ν S) (hh : h < nH N) {v : Int32} (ho : ∃ b, b < nB N ∧ v = nI b) : MS N m B ν0 (sA ν (m + 24) (B + (978 + h)) v) (zu S 41 h v) := by
  have b8 := q.nw.b8
  have l14 := q.nw.l14
  have h8 := q.nw.h8
  have g : ∀ k', k' ≠ 978 + h → rw_ m B (sA ν (m + 24) (B + (978 + h)) v) k' = rw_ m B ν k' := fun k' hk' => by rw [rw_w _ _ _ _ _ _ (by omega), if_neg hk']
  have z : ∀ f i, f ≠ 41 → zu S 41 h v f i = S f i := fun f i hf => if_neg (fun x => hf x.1)
  obtain ⟨⟨m1, m2, m3, m4, m5, m6, m7, m8, m9, m10, mw, m11⟩, hso, hmt, hfr⟩ := q
  have nw := hmt.1
  refine ⟨⟨?_, ?_, ?_, ?_, ?_, ?_, ?_, ?_, ?_, ?_, ?_, ?_⟩, ?_, hmt, hfr.wA (by omega)⟩
  · intro e' k' he' hk' hh
    have hp' := nw.pl_48 he'
    rw [z 10 _ (by omega)] at hh
    rw [g _ (by omega), z _ _ (by omega)]; exact m1 e' k' he' hk' hh
  · intro e' k' he' h4 h5
    rw [z _ _ (by omega)]; exact m2 e' k' he' h4 h5
  · intro b' k' hb' hk' hc
    have := nw.b_8 hb'
    rw [z 32 b' (by omega)] at hc
    rw [g _ (by omega), z _ _ (by omega)]; exact m3 b' k' hb' hk' hc
  · intro b' hb'; rw [z _ _ (by omega), z _ _ (by omega)]; exact m4 b' hb'
  · intro l' hl'; rw [z _ _ (by omega), g _ (by omega)]; exact m5 l' hl'
  · intro h' hh'
    rw [rw_w _ _ _ _ _ _ (by omega)]
    show _ = (if 41 = 41 ∧ h' = h then v else S 41 h')
    by_cases x : h' = h
    · rw [if_pos (by omega), if_pos ⟨rfl, x⟩]
    · rw [if_neg (by omega), if_neg (fun y => x y.2)]; exact m6 h' hh'
  · intro b' h' hb' hh'; have := nw.b_8 hb'; rw [z _ _ (by omega), z _ _ (by omega), g _ (by omega), g _ (by omega)]; exact m7 b' h' hb' hh'
  · intro b' h' hb' h1 h2; rw [z _ _ (by omega)]; exact m8 b' h' hb' h1 h2
  · rw [z _ _ (by omega), z _ _ (by omega), g _ (by omega), g _ (by omega)]; exact m9
  · obtain ⟨t, t1, t2, t3⟩ := m10
    refine ⟨t, t1, by rw [g _ (by omega)]; exact t2, fun hb => ?_⟩
    rw [z _ _ (by omega)] at hb
    obtain ⟨t4, t5⟩ := t3 hb
    exact ⟨by rw [z _ _ (by omega)]; exact t4, fun k hk => by rw [z _ _ (by omega), g _ (by omega)]; exact t5 k hk⟩
  · exact ⟨fun k hk => by rw [g _ (by omega), z _ _ (by omega)]; exact mw.1 k hk, fun b hb => by rw [g _ (by omega), z _ _ (by omega)]; exact mw.2 b hb⟩
  · exact m11.keep (g _ (by omega)) (fun k hk => g _ (by omega)) (fun c q h1 h2 _ => z _ _ (by omega))
  · exact hso.wH ho
theorem MS.w_a (q : MS N m B ν0 ν S) (hb : b < nB N) (hh : h < nH N) {v : Int32} (ho : okA N b v) : MS N m B ν0 (sA ν (m + 24) (B + (986 + 2 * (8 * b + h))) v) (zu S 42 (b * 8 + h) v) := by
  have b8 := q.nw.b8
  have l14 := q.nw.l14
  have h8 := q.nw.h8
  have b8x := q.nw.b_8 hb
  have g : ∀ k', k' ≠ 986 + 2 * (8 * b + h) → rw_ m B (sA ν (m + 24) (B + (986 + 2 * (8 * b + h))) v) k' = rw_ m B ν k' := fun k' hk' => by rw [rw_w _ _ _ _ _ _ (by omega), if_neg hk']
  have z : ∀ f i, f ≠ 42 → zu S 42 (b * 8 + h) v f i = S f i := fun f i hf => if_neg (fun x => hf x.1)
  obtain ⟨⟨m1, m2, m3, m4, m5, m6, m7, m8, m9, m10, mw, m11⟩, hso, hmt, hfr⟩ := q
  have nw := hmt.1
  refine ⟨⟨?_, ?_, ?_, ?_, ?_, ?_, ?_, ?_, ?_, ?_, ?_, ?_⟩, ?_, hmt, hfr.wA (by omega)⟩
  · intro e' k' he' hk' hh
    have hp' := nw.pl_48 he'
    rw [z 10 _ (by omega)] at hh
    rw [g _ (by omega), z _ _ (by omega)]; exact m1 e' k' he' hk' hh
  · intro e' k' he' h4 h5
    rw [z _ _ (by omega)]; exact m2 e' k' he' h4 h5
  · intro b' k' hb' hk' hc
    have := nw.b_8 hb'
    rw [z 32 b' (by omega)] at hc
    rw [g _ (by omega), z _ _ (by omega)]; exact m3 b' k' hb' hk' hc
  · intro b' hb'; rw [z _ _ (by omega), z _ _ (by omega)]; exact m4 b' hb'
  · intro l' hl'; rw [z _ _ (by omega), g _ (by omega)]; exact m5 l' hl'
  · intro h' hh'; rw [z _ _ (by omega), g _ (by omega)]; exact m6 h' hh'
  · intro b' h' hb' hh'
    have h1 := nw.b_8 hb'
    rw [rw_w _ _ _ _ _ _ (by omega), z 43 _ (by omega), g _ (by omega)]
    show (_ = (if 42 = 42 ∧ b' * 8 + h' = b * 8 + h then v else S 42 (b' * 8 + h'))) ∧ _
    refine ⟨?_, (m7 b' h' hb' hh').2⟩
    by_cases x : b' * 8 + h' = b * 8 + h
    · rw [if_pos (by omega), if_pos ⟨rfl, x⟩]
    · rw [if_neg (by omega), if_neg (fun y => x y.2)]; exact (m7 b' h' hb' hh').1
  · intro b' h' hb' h1 h2
    have := nw.b_8 hb'
    show (if 42 = 42 ∧ b' * 8 + h' = b * 8 + h then v else S 42 (b' * 8 + h')) = -1
    rw [if_neg (by omega)]; exact m8 b' h' hb' h1 h2
  · rw [z _ _ (by omega), z _ _ (by omega), g _ (by omega), g _ (by omega)]; exact m9
  · obtain ⟨t, t1, t2, t3⟩ := m10
    refine ⟨t, t1, by rw [g _ (by omega)]; exact t2, fun hb => ?_⟩
    rw [z _ _ (by omega)] at hb
    obtain ⟨t4, t5⟩ := t3 hb
    exact ⟨by rw [z _ _ (by omega)]; exact t4, fun k hk => by rw [z _ _ (by omega), g _ (by omega)]; exact t5 k hk⟩
  · exact ⟨fun k hk => by rw [g _ (by omega), z _ _ (by omega)]; exact mw.1 k hk, fun b hb => by rw [g _ (by omega), z _ _ (by omega)]; exact mw.2 b hb⟩
  · exact m11.keep (g _ (by omega)) (fun k hk => g _ (by omega)) (fun c q h1 h2 _ => z _ _ (by omega))
  · exact hso.wL hb (by omega) rfl ho
theorem MS.w_g (q : MS N m B ν0 ν S) (hb : b < nB N) (hh : h < nH N) {v : Int32} : MS N m B ν0 (sA ν (m + 24) (B + (986 + 2 * (8 * b + h) + 1)) v) (zu S 43 (b * 8 + h) v) := by
  have b8 := q.nw.b8
  have l14 := q.nw.l14
  have h8 := q.nw.h8
  have b8x := q.nw.b_8 hb
  have g : ∀ k', k' ≠ 986 + 2 * (8 * b + h) + 1 → rw_ m B (sA ν (m + 24) (B + (986 + 2 * (8 * b + h) + 1)) v) k' = rw_ m B ν k' := fun k' hk' => by rw [rw_w _ _ _ _ _ _ (by omega), if_neg hk']
  have z : ∀ f i, f ≠ 43 → zu S 43 (b * 8 + h) v f i = S f i := fun f i hf => if_neg (fun x => hf x.1)
  obtain ⟨⟨m1, m2, m3, m4, m5, m6, m7, m8, m9, m10, mw, m11⟩, hso, hmt, hfr⟩ := q
  have nw := hmt.1
  refine ⟨⟨?_, ?_, ?_, ?_, ?_, ?_, ?_, ?_, ?_, ?_, ?_, ?_⟩, ?_, hmt, hfr.wA (by omega)⟩
  · intro e' k' he' hk' hh
    have hp' := nw.pl_48 he'
    rw [z 10 _ (by omega)] at hh
    rw [g _ (by omega), z _ _ (by omega)]; exact m1 e' k' he' hk' hh
  · intro e' k' he' h4 h5
    rw [z _ _ (by omega)]; exact m2 e' k' he' h4 h5
  · intro b' k' hb' hk' hc
    have := nw.b_8 hb'
    rw [z 32 b' (by omega)] at hc
    rw [g _ (by omega), z _ _ (by omega)]; exact m3 b' k' hb' hk' hc
  · intro b' hb'; rw [z _ _ (by omega), z _ _ (by omega)]; exact m4 b' hb'
  · intro l' hl'; rw [z _ _ (by omega), g _ (by omega)]; exact m5 l' hl'
  · intro h' hh'; rw [z _ _ (by omega), g _ (by omega)]; exact m6 h' hh'
  · intro b' h' hb' hh'
    have h1 := nw.b_8 hb'
    rw [z 42 _ (by omega), g _ (by omega), rw_w _ _ _ _ _ _ (by omega)]
    show _ ∧ (_ = (if 43 = 43 ∧ b' * 8 + h' = b * 8 + h then v else S 43 (b' * 8 + h')))
    refine ⟨(m7 b' h' hb' hh').1, ?_⟩
    by_cases x : b' * 8 + h' = b * 8 + h
    · rw [if_pos (by omega), if_pos ⟨rfl, x⟩]
    · rw [if_neg (by omega), if_neg (fun y => x y.2)]; exact (m7 b' h' hb' hh').2
  · intro b' h' hb' h1 h2; rw [z _ _ (by omega)]; exact m8 b' h' hb' h1 h2
  · rw [z _ _ (by omega), z _ _ (by omega), g _ (by omega), g _ (by omega)]; exact m9
  · obtain ⟨t, t1, t2, t3⟩ := m10
    refine ⟨t, t1, by rw [g _ (by omega)]; exact t2, fun hb => ?_⟩
    rw [z _ _ (by omega)] at hb
    obtain ⟨t4, t5⟩ := t3 hb
    exact ⟨by rw [z _ _ (by omega)]; exact t4, fun k hk => by rw [z _ _ (by omega), g _ (by omega)]; exact t5 k hk⟩
  · exact ⟨fun k hk => by rw [g _ (by omega), z _ _ (by omega)]; exact mw.1 k hk, fun b hb => by rw [g _ (by omega), z _ _ (by omega)]; exact mw.2 b hb⟩
  · exact m11.keep (g _ (by omega)) (fun k hk => g _ (by omega)) (fun c q h1 h2 _ => z _ _ (by omega))
  · exact ⟨fun b h hb hh => by rw [z _ _ (by omega)]; exact hso.1 b h hb hh, fun h hh => by rw [z _ _ (by omega)]; exact hso.2 h hh⟩
theorem MS.w_s (q : MS N m B ν0 ν S) {v : Int32} : MS N m B ν0 (sA ν (m + 24) (B + (0)) v) (zu S 44 0 v) := by
  have b8 := q.nw.b8
  have l14 := q.nw.l14
  have h8 := q.nw.h8
  have g : ∀ k', k' ≠ 0 → rw_ m B (sA ν (m + 24) (B + (0)) v) k' = rw_ m B ν k' := fun k' hk' => by rw [rw_w _ _ _ _ _ _ (by omega), if_neg hk']
  have z : ∀ f i, f ≠ 44 → zu S 44 0 v f i = S f i := fun f i hf => if_neg (fun x => hf x.1)
  obtain ⟨⟨m1, m2, m3, m4, m5, m6, m7, m8, m9, m10, mw, m11⟩, hso, hmt, hfr⟩ := q
  have nw := hmt.1
  refine ⟨⟨?_, ?_, ?_, ?_, ?_, ?_, ?_, ?_, ?_, ?_, ?_, ?_⟩, ?_, hmt, hfr.wA (by omega)⟩
  · intro e' k' he' hk' hh
    have hp' := nw.pl_48 he'
    rw [z 10 _ (by omega)] at hh
    rw [g _ (by omega), z _ _ (by omega)]; exact m1 e' k' he' hk' hh
  · intro e' k' he' h4 h5
    rw [z _ _ (by omega)]; exact m2 e' k' he' h4 h5
  · intro b' k' hb' hk' hc
    have := nw.b_8 hb'
    rw [z 32 b' (by omega)] at hc
    rw [g _ (by omega), z _ _ (by omega)]; exact m3 b' k' hb' hk' hc
  · intro b' hb'; rw [z _ _ (by omega), z _ _ (by omega)]; exact m4 b' hb'
  · intro l' hl'; rw [z _ _ (by omega), g _ (by omega)]; exact m5 l' hl'
  · intro h' hh'; rw [z _ _ (by omega), g _ (by omega)]; exact m6 h' hh'
  · intro b' h' hb' hh'; have := nw.b_8 hb'; rw [z _ _ (by omega), z _ _ (by omega), g _ (by omega), g _ (by omega)]; exact m7 b' h' hb' hh'
  · intro b' h' hb' h1 h2; rw [z _ _ (by omega)]; exact m8 b' h' hb' h1 h2
  · rw [rw_w _ _ _ _ _ _ (by omega), if_pos rfl, g _ (by omega)]
    exact ⟨(if_pos ⟨rfl, rfl⟩).symm, m9.2.trans (if_neg (by omega)).symm⟩
  · obtain ⟨t, t1, t2, t3⟩ := m10
    refine ⟨t, t1, by rw [g _ (by omega)]; exact t2, fun hb => ?_⟩
    rw [z _ _ (by omega)] at hb
    obtain ⟨t4, t5⟩ := t3 hb
    exact ⟨(if_neg (by omega)).trans t4, fun k hk => by rw [z _ _ (by omega), g _ (by omega)]; exact t5 k hk⟩
  · exact ⟨fun k hk => by rw [g _ (by omega), z _ _ (by omega)]; exact mw.1 k hk, fun b hb => by rw [g _ (by omega), z _ _ (by omega)]; exact mw.2 b hb⟩
  · exact m11.keep (g _ (by omega)) (fun k hk => g _ (by omega)) (fun c q h1 h2 _ => z _ _ (by omega))
  · exact ⟨fun b h hb hh => by rw [z _ _ (by omega)]; exact hso.1 b h hb hh, fun h hh => by rw [z _ _ (by omega)]; exact hso.2 h hh⟩
theorem MS.w_f (q : MS N m B ν0 ν S) {v : Int32} : MS N m B ν0 (sA ν (m + 24) (B + (1)) v) (zu S 44 1 v) := by
  have b8 := q.nw.b8
  have l14 := q.nw.l14
  have h8 := q.nw.h8
  have g : ∀ k', k' ≠ 1 → rw_ m B (sA ν (m + 24) (B + (1)) v) k' = rw_ m B ν k' := fun k' hk' => by rw [rw_w _ _ _ _ _ _ (by omega), if_neg hk']
  have z : ∀ f i, f ≠ 44 → zu S 44 1 v f i = S f i := fun f i hf => if_neg (fun x => hf x.1)
  obtain ⟨⟨m1, m2, m3, m4, m5, m6, m7, m8, m9, m10, mw, m11⟩, hso, hmt, hfr⟩ := q
  have nw := hmt.1
  refine ⟨⟨?_, ?_, ?_, ?_, ?_, ?_, ?_, ?_, ?_, ?_, ?_, ?_⟩, ?_, hmt, hfr.wA (by omega)⟩
  · intro e' k' he' hk' hh
    have hp' := nw.pl_48 he'
    rw [z 10 _ (by omega)] at hh
    rw [g _ (by omega), z _ _ (by omega)]; exact m1 e' k' he' hk' hh
  · intro e' k' he' h4 h5
    rw [z _ _ (by omega)]; exact m2 e' k' he' h4 h5
  · intro b' k' hb' hk' hc
    have := nw.b_8 hb'
    rw [z 32 b' (by omega)] at hc
    rw [g _ (by omega), z _ _ (by omega)]; exact m3 b' k' hb' hk' hc
  · intro b' hb'; rw [z _ _ (by omega), z _ _ (by omega)]; exact m4 b' hb'
  · intro l' hl'; rw [z _ _ (by omega), g _ (by omega)]; exact m5 l' hl'
  · intro h' hh'; rw [z _ _ (by omega), g _ (by omega)]; exact m6 h' hh'
  · intro b' h' hb' hh'; have := nw.b_8 hb'; rw [z _ _ (by omega), z _ _ (by omega), g _ (by omega), g _ (by omega)]; exact m7 b' h' hb' hh'
  · intro b' h' hb' h1 h2; rw [z _ _ (by omega)]; exact m8 b' h' hb' h1 h2
  · rw [rw_w _ _ _ _ _ _ (by omega), if_neg (by omega), rw_w _ _ _ _ _ _ (by omega), if_pos rfl]
    exact ⟨m9.1.trans (if_neg (by omega)).symm, (if_pos ⟨rfl, rfl⟩).symm⟩
  · obtain ⟨t, t1, t2, t3⟩ := m10
    refine ⟨t, t1, by rw [g _ (by omega)]; exact t2, fun hb => ?_⟩
    rw [z _ _ (by omega)] at hb
    obtain ⟨t4, t5⟩ := t3 hb
    exact ⟨(if_neg (by omega)).trans t4, fun k hk => by rw [z _ _ (by omega), g _ (by omega)]; exact t5 k hk⟩
  · exact ⟨fun k hk => by rw [g _ (by omega), z _ _ (by omega)]; exact mw.1 k hk, fun b hb => by rw [g _ (by omega), z _ _ (by omega)]; exact mw.2 b hb⟩
  · exact m11.keep (g _ (by omega)) (fun k hk => g _ (by omega)) (fun c q h1 h2 _ => z _ _ (by omega))
  · exact ⟨fun b h hb hh => by rw [z _ _ (by omega)]; exact hso.1 b h hb hh, fun h hh => by rw [z _ _ (by omega)]; exact hso.2 h hh⟩
theorem MS.w_nh (q : MS N m B ν0 ν S) (he : e < 2 * nL N) : MS N m B ν0 (sA ν (m + 24) (B + (100 + 18 * pl N e + 10)) 0) (zu S 10 e 0) := by
  have b8 := q.nw.b8
  have l14 := q.nw.l14
  have h8 := q.nw.h8
  have hp := q.nw.pl_48 he
  have g : ∀ k', k' ≠ 100 + 18 * pl N e + 10 → rw_ m B (sA ν (m + 24) (B + (100 + 18 * pl N e + 10)) 0) k' = rw_ m B ν k' := fun k' hk' => by rw [rw_w _ _ _ _ _ _ (by omega), if_neg hk']
  have z : ∀ f i, f ≠ 10 → zu S 10 e 0 f i = S f i := fun f i hf => if_neg (fun x => hf x.1)
  obtain ⟨⟨m1, m2, m3, m4, m5, m6, m7, m8, m9, m10, mw, m11⟩, hso, hmt, hfr⟩ := q
  have nw := hmt.1
  refine ⟨⟨?_, ?_, ?_, ?_, ?_, ?_, ?_, ?_, ?_, ?_, ?_, ?_⟩, ?_, hmt, hfr.wA (by omega)⟩
  · intro e' k' he' hk' hh
    have hp' := nw.pl_48 he'
    have hh2 : 11 ≤ k' → S 10 e' = 1 := fun x => by
      have y : (if 10 = 10 ∧ e' = e then (0 : Int32) else S 10 e') = 1 := hh x
      by_cases x2 : e' = e
      · rw [if_pos ⟨rfl, x2⟩] at y; exact absurd y (by decide)
      · rw [if_neg (fun z => x2 z.2)] at y; exact y
    rw [rw_w _ _ _ _ _ _ (by omega)]
    show _ = (if k' = 10 ∧ e' = e then 0 else S k' e')
    by_cases x : k' = 10 ∧ e' = e
    · rw [if_pos x, if_pos (by rw [x.1, x.2])]
    · rw [if_neg x, if_neg (fun y => x ?_)]
      · exact m1 e' k' he' hk' hh2
      · by_cases hne : e' = e
        · subst hne; exact ⟨by omega, rfl⟩
        · have := pl_ne nw he he' hne; omega
  · intro e' k' he' h4 h5
    show (if k' = 10 ∧ e' = e then 0 else S k' e') = 0 ∨ (if k' = 10 ∧ e' = e then 0 else S k' e') = 1
    by_cases x : k' = 10 ∧ e' = e
    · rw [if_pos x]; exact Or.inl rfl
    · rw [if_neg x]; exact m2 e' k' he' h4 h5
  · intro b' k' hb' hk' hc
    have := nw.b_8 hb'
    rw [z 32 b' (by omega)] at hc
    rw [g _ (by omega), z _ _ (by omega)]; exact m3 b' k' hb' hk' hc
  · intro b' hb'; rw [z _ _ (by omega), z _ _ (by omega)]; exact m4 b' hb'
  · intro l' hl'; rw [z _ _ (by omega), g _ (by omega)]; exact m5 l' hl'
  · intro h' hh'; rw [z _ _ (by omega), g _ (by omega)]; exact m6 h' hh'
  · intro b' h' hb' hh'; have := nw.b_8 hb'; rw [z _ _ (by omega), z _ _ (by omega), g _ (by omega), g _ (by omega)]; exact m7 b' h' hb' hh'
  · intro b' h' hb' h1 h2; rw [z _ _ (by omega)]; exact m8 b' h' hb' h1 h2
  · rw [z _ _ (by omega), z _ _ (by omega), g _ (by omega), g _ (by omega)]; exact m9
  · obtain ⟨t, t1, t2, t3⟩ := m10
    refine ⟨t, t1, by rw [g _ (by omega)]; exact t2, fun hb => ?_⟩
    rw [z _ _ (by omega)] at hb
    obtain ⟨t4, t5⟩ := t3 hb
    exact ⟨by rw [z _ _ (by omega)]; exact t4, fun k hk => by rw [z _ _ (by omega), g _ (by omega)]; exact t5 k hk⟩
  · exact ⟨fun k hk => by rw [g _ (by omega), z _ _ (by omega)]; exact mw.1 k hk, fun b hb => by rw [g _ (by omega), z _ _ (by omega)]; exact mw.2 b hb⟩
  · exact m11.keep (g _ (by omega)) (fun k hk => g _ (by omega)) (fun c q h1 h2 _ => z _ _ (by omega))
  · exact ⟨fun b h hb hh => by rw [z _ _ (by omega)]; exact hso.1 b h hb hh, fun h hh => by rw [z _ _ (by omega)]; exact hso.2 h hh⟩
theorem MS.s0 (q : MS N m B ν0 ν S) (he : e < 2 * nL N) {v : Int32} : ∃ ν1, f12_sets m (nI (pl N e)) 0 v ν = some ν1 ∧ MS N m B ν0 ν1 (zu S 0 e v) := ⟨_, q.setsR (k := 0) (q.nw.pl_48 he) (by omega), q.w_p he (by omega) (by omega) (fun x y => absurd (And.intro x y) (by omega))⟩
theorem MS.s1 (q : MS N m B ν0 ν S) (he : e < 2 * nL N) {v : Int32} : ∃ ν1, f12_sets m (nI (pl N e)) 1 v ν = some ν1 ∧ MS N m B ν0 ν1 (zu S 1 e v) := ⟨_, q.setsR (k := 1) (q.nw.pl_48 he) (by omega), q.w_p he (by omega) (by omega) (fun x y => absurd (And.intro x y) (by omega))⟩
theorem MS.s2 (q : MS N m B ν0 ν S) (he : e < 2 * nL N) {v : Int32} : ∃ ν1, f12_sets m (nI (pl N e)) 2 v ν = some ν1 ∧ MS N m B ν0 ν1 (zu S 2 e v) := ⟨_, q.setsR (k := 2) (q.nw.pl_48 he) (by omega), q.w_p he (by omega) (by omega) (fun x y => absurd (And.intro x y) (by omega))⟩
theorem MS.s3 (q : MS N m B ν0 ν S) (he : e < 2 * nL N) {v : Int32} : ∃ ν1, f12_sets m (nI (pl N e)) 3 v ν = some ν1 ∧ MS N m B ν0 ν1 (zu S 3 e v) := ⟨_, q.setsR (k := 3) (q.nw.pl_48 he) (by omega), q.w_p he (by omega) (by omega) (fun x y => absurd (And.intro x y) (by omega))⟩
theorem MS.s4 (q : MS N m B ν0 ν S) (he : e < 2 * nL N) {v : Int32} (hv : v = 0 ∨ v = 1) : ∃ ν1, f12_sets m (nI (pl N e)) 4 v ν = some ν1 ∧ MS N m B ν0 ν1 (zu S 4 e v) := ⟨_, q.setsR (k := 4) (q.nw.pl_48 he) (by omega), q.w_p he (by omega) (by omega) (fun _ _ => hv)⟩
theorem MS.s5 (q : MS N m B ν0 ν S) (he : e < 2 * nL N) {v : Int32} (hv : v = 0 ∨ v = 1) : ∃ ν1, f12_sets m (nI (pl N e)) 5 v ν = some ν1 ∧ MS N m B ν0 ν1 (zu S 5 e v) := ⟨_, q.setsR (k := 5) (q.nw.pl_48 he) (by omega), q.w_p he (by omega) (by omega) (fun _ _ => hv)⟩
theorem MS.s6 (q : MS N m B ν0 ν S) (he : e < 2 * nL N) {v : Int32} (hv : v = 0 ∨ v = 1) : ∃ ν1, f12_sets m (nI (pl N e)) 6 v ν = some ν1 ∧ MS N m B ν0 ν1 (zu S 6 e v) := ⟨_, q.setsR (k := 6) (q.nw.pl_48 he) (by omega), q.w_p he (by omega) (by omega) (fun _ _ => hv)⟩
theorem MS.s7 (q : MS N m B ν0 ν S) (he : e < 2 * nL N) {v : Int32} (hv : v = 0 ∨ v = 1) : ∃ ν1, f12_sets m (nI (pl N e)) 7 v ν = some ν1 ∧ MS N m B ν0 ν1 (zu S 7 e v) := ⟨_, q.setsR (k := 7) (q.nw.pl_48 he) (by omega), q.w_p he (by omega) (by omega) (fun _ _ => hv)⟩
theorem MS.s8 (q : MS N m B ν0 ν S) (he : e < 2 * nL N) {v : Int32} (hv : v = 0 ∨ v = 1) : ∃ ν1, f12_sets m (nI (pl N e)) 8 v ν = some ν1 ∧ MS N m B ν0 ν1 (zu S 8 e v) := ⟨_, q.setsR (k := 8) (q.nw.pl_48 he) (by omega), q.w_p he (by omega) (by omega) (fun _ _ => hv)⟩
theorem MS.s9 (q : MS N m B ν0 ν S) (he : e < 2 * nL N) {v : Int32} (hv : v = 0 ∨ v = 1) : ∃ ν1, f12_sets m (nI (pl N e)) 9 v ν = some ν1 ∧ MS N m B ν0 ν1 (zu S 9 e v) := ⟨_, q.setsR (k := 9) (q.nw.pl_48 he) (by omega), q.w_p he (by omega) (by omega) (fun _ _ => hv)⟩
theorem MS.s10 (q : MS N m B ν0 ν S) (he : e < 2 * nL N) : ∃ ν1, f12_sets m (nI (pl N e)) 10 0 ν = some ν1 ∧ MS N m B ν0 ν1 (zu S 10 e 0) := ⟨_, q.setsR (k := 10) (q.nw.pl_48 he) (by omega), q.w_nh he⟩
theorem MS.s11 (q : MS N m B ν0 ν S) (he : e < 2 * nL N) {v : Int32} : ∃ ν1, f12_sets m (nI (pl N e)) 11 v ν = some ν1 ∧ MS N m B ν0 ν1 (zu S 11 e v) := ⟨_, q.setsR (k := 11) (q.nw.pl_48 he) (by omega), q.w_p he (by omega) (by omega) (fun x y => absurd (And.intro x y) (by omega))⟩
theorem MS.s12 (q : MS N m B ν0 ν S) (he : e < 2 * nL N) {v : Int32} : ∃ ν1, f12_sets m (nI (pl N e)) 12 v ν = some ν1 ∧ MS N m B ν0 ν1 (zu S 12 e v) := ⟨_, q.setsR (k := 12) (q.nw.pl_48 he) (by omega), q.w_p he (by omega) (by omega) (fun x y => absurd (And.intro x y) (by omega))⟩
theorem MS.s13 (q : MS N m B ν0 ν S) (he : e < 2 * nL N) {v : Int32} : ∃ ν1, f12_sets m (nI (pl N e)) 13 v ν = some ν1 ∧ MS N m B ν0 ν1 (zu S 13 e v) := ⟨_, q.setsR (k := 13) (q.nw.pl_48 he) (by omega), q.w_p he (by omega) (by omega) (fun x y => absurd (And.intro x y) (by omega))⟩
theorem MS.s14 (q : MS N m B ν0 ν S) (he : e < 2 * nL N) {v : Int32} : ∃ ν1, f12_sets m (nI (pl N e)) 14 v ν = some ν1 ∧ MS N m B ν0 ν1 (zu S 14 e v) := ⟨_, q.setsR (k := 14) (q.nw.pl_48 he) (by omega), q.w_p he (by omega) (by omega) (fun x y => absurd (And.intro x y) (by omega))⟩
theorem MS.s15 (q : MS N m B ν0 ν S) (he : e < 2 * nL N) {v : Int32} : ∃ ν1, f12_sets m (nI (pl N e)) 15 v ν = some ν1 ∧ MS N m B ν0 ν1 (zu S 15 e v) := ⟨_, q.setsR (k := 15) (q.nw.pl_48 he) (by omega), q.w_p he (by omega) (by omega) (fun x y => absurd (And.intro x y) (by omega))⟩
theorem MS.s16 (q : MS N m B ν0 ν S) (he : e < 2 * nL N) {v : Int32} : ∃ ν1, f12_sets m (nI (pl N e)) 16 v ν = some ν1 ∧ MS N m B ν0 ν1 (zu S 16 e v) := ⟨_, q.setsR (k := 16) (q.nw.pl_48 he) (by omega), q.w_p he (by omega) (by omega) (fun x y => absurd (And.intro x y) (by omega))⟩
end zMS
