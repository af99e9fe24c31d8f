/-! ENGINE: a flat memory of typed cells, and the machine's instructions as rules over it -/
abbrev zM : Type := (Nat → Nat → Int32) × (Nat → Nat → Int32) × (Nat → Nat → Bool) × (Nat → Nat → Bool) × (Nat → Nat → Option Nat) × (Nat → Nat → Option Nat)
def gF (μ : zM) (k a : Nat) : Int32 := μ.1 k a
def gA (μ : zM) (a j : Nat) : Int32 := μ.2.1 a j
def gB (μ : zM) (k a : Nat) : Bool := μ.2.2.1 k a
def gZ (μ : zM) (a j : Nat) : Bool := μ.2.2.2.1 a j
def gR (μ : zM) (k a : Nat) : Option Nat := μ.2.2.2.2.1 k a
def gX (μ : zM) (a j : Nat) : Option Nat := μ.2.2.2.2.2 a j
def zu {α : Type} (f : Nat → Nat → α) (k a : Nat) (v : α) : Nat → Nat → α := fun k' a' => if k' = k ∧ a' = a then v else f k' a'
def sF (μ : zM) (k a : Nat) (v : Int32) : zM := (zu μ.1 k a v, μ.2.1, μ.2.2.1, μ.2.2.2.1, μ.2.2.2.2.1, μ.2.2.2.2.2)
def sA (μ : zM) (a j : Nat) (v : Int32) : zM := (μ.1, zu μ.2.1 a j v, μ.2.2.1, μ.2.2.2.1, μ.2.2.2.2.1, μ.2.2.2.2.2)
def sB (μ : zM) (k a : Nat) (v : Bool) : zM := (μ.1, μ.2.1, zu μ.2.2.1 k a v, μ.2.2.2.1, μ.2.2.2.2.1, μ.2.2.2.2.2)
def sZ (μ : zM) (a j : Nat) (v : Bool) : zM := (μ.1, μ.2.1, μ.2.2.1, zu μ.2.2.2.1 a j v, μ.2.2.2.2.1, μ.2.2.2.2.2)
def sR (μ : zM) (k a : Nat) (v : Option Nat) : zM := (μ.1, μ.2.1, μ.2.2.1, μ.2.2.2.1, zu μ.2.2.2.2.1 k a v, μ.2.2.2.2.2)
def sX (μ : zM) (a j : Nat) (v : Option Nat) : zM := (μ.1, μ.2.1, μ.2.2.1, μ.2.2.2.1, μ.2.2.2.2.1, zu μ.2.2.2.2.2 a j v)
def bI (b : Bool) : Int32 := if b = true then 1 else 0
/-- an index within n, as a number -/
def rI (n : Nat) (i : Int32) : Option Nat := if i < 0 ∨ n ≤ i.toNatClampNeg then none else some i.toNatClampNeg
def rA (μ : zM) (a n : Nat) (i : Int32) : Option Int32 := (rI n i).bind fun j => some (gA μ a j)
def rZ (μ : zM) (a n : Nat) (i : Int32) : Option Bool := (rI n i).bind fun j => some (gZ μ a j)
def wA (μ : zM) (a n : Nat) (i v : Int32) : Option zM := (rI n i).bind fun j => some (sA μ a j v)
def wZ (μ : zM) (a n : Nat) (i : Int32) (v : Bool) : Option zM := (rI n i).bind fun j => some (sZ μ a j v)
def wF (μ : zM) (k a : Nat) (v : Int32) : Option zM := some (sF μ k a v)
def wB (μ : zM) (k a : Nat) (v : Bool) : Option zM := some (sB μ k a v)
def wR (μ : zM) (k a : Nat) (v : Nat) : Option zM := some (sR μ k a (some v))
def iDiv (x y : Int32) : Option Int32 := if y = 0 then none else some (x / y)
def iRem (x y : Int32) : Option Int32 := if y = 0 then none else some (x - x / y * y)
def lRem (x y : Int64) : Option Int64 := if y = 0 then none else some (x - x / y * y)
/-- what a loop is: at most n rounds -/
def zloop {σ ρ : Type} (body : σ → Option (σ ⊕ ρ)) : Nat → σ → Option ρ
  | 0, _ => none
  | n + 1, x => (body x).bind fun y => match y with
    | .inl x' => zloop body n x'
    | .inr r => some r
theorem zinv {α β : Type} {x : Option α} {f : α → Option β} {r : β} (h : x.bind f = some r) : ∃ a, x = some a ∧ f a = some r := by
  cases x with
  | none => cases h
  | some a => exact ⟨a, rfl, h⟩
theorem rI_in {n : Nat} {i : Int32} {j : Nat} (h : rI n i = some j) : vp_in i n ∧ i.toNatClampNeg = j := by
  unfold rI at h
  split at h
  · cases h
  · exact ⟨‹_›, Option.some.inj h⟩
/-! kinds: of a field (0 int, 1 boolean, 2 the cell so far behind, 3 so far ahead, 4 any reference, of the tag that stands beside), of the four arrays of references (0 any, other: by places) -/
abbrev zKd : Type := (Nat → Nat → Nat × Nat) × (Nat → Nat × Nat × Nat)
/-- class ids, slots, array class ids, addresses of texts and of their bytes, which cells may change -/
abbrev zDt : Type := (Nat → ClassId) × (Nat → Nat → Nat) × (Nat → ClassId) × (Nat → Nat) × (Nat → Nat) × (Nat → Prop)
abbrev zSh : Type := Nat → Nat × Nat
abbrev zTt : Type := zSh × Nat × Nat × Nat
/-- the cells that may change -/
def zAf (D : zDt) : Nat → Prop := D.2.2.2.2.2
def zv (K : zKd) (μ : zM) (ci a k : Nat) : Value :=
  match (K.1 ci k).1 with
  | 0 => .int (gF μ (100 * ci + k) a)
  | 1 => .int (bI (gB μ (100 * ci + k) a))
  | 2 => .ref (a + (K.1 ci k).2)
  | 3 => .ref (a - (K.1 ci k).2)
  | _ => va_rf (gR μ (100 * ci + k) a)
def zx (K : zKd) (μ : zM) (t a j : Nat) : Value :=
  match (K.2 t).1 with
  | 0 => va_rf (gX μ a j)
  | _ => .ref (a + (K.2 t).2.1 + (K.2 t).2.2 * j)
def zcl : List vw_C := vwCl
def zty (D : zDt) : List (ClassId × FieldType) := [(D.2.2.1 0, .int), (D.2.2.1 1, .boolean), (D.2.2.1 2, .object RX0), (D.2.2.1 3, .object RX4), (D.2.2.1 4, .object RX3), (D.2.2.1 5, .object RX8)]
def zcell (D : zDt) (K : zKd) (μ : zM) (sh : Nat × Nat) (a : Nat) (H : Heap) : Prop :=
  match sh.1 with
  | 0 => True
  | 1 => H[a]? = some (arrV (D.2.2.1 0) sh.2 (fun j => .int (gA μ a j)))
  | 2 => H[a]? = some (arrV (D.2.2.1 1) sh.2 (fun j => .int (bI (gZ μ a j))))
  | 3 => H[a]? = some (arrV (D.2.2.1 2) sh.2 (zx K μ 0 a))
  | 4 => H[a]? = some (arrV (D.2.2.1 3) sh.2 (zx K μ 1 a))
  | 5 => H[a]? = some (arrV (D.2.2.1 4) sh.2 (zx K μ 2 a))
  | 6 => H[a]? = some (arrV (D.2.2.1 5) sh.2 (zx K μ 3 a))
  | t + 7 => ∃ r : vw_C, zcl[t]? = some r ∧ t_OB a (D.1 t) r.2.2 (D.2.1 t) H (zv K μ t a)
/-- references that change are of their kind -/
def zDy (K : zKd) (Sh : zSh) (μ : zM) : Prop := (∀ a ci k w, (Sh a).1 = ci + 7 → (K.1 ci k).1 = 4 → gR μ (100 * ci + k) a = some w → (Sh w).1 = (K.1 ci k).2) ∧ ∀ a t n j w, t < 4 → Sh a = (t + 3, n) → (K.2 t).1 = 0 → gX μ a j = some w → (Sh w).1 = (K.2 t).2.1
def zH (D : zDt) (K : zKd) (Sh : zSh) (μ : zM) (H : Heap) : Prop := (∀ a, zcell D K μ (Sh a) a H) ∧ (∀ a, (Sh a).1 ≠ 0 → zAf D a) ∧ zDy K Sh μ
theorem zcell.kept {D : zDt} {K : zKd} {μ : zM} {sh : Nat × Nat} {a : Nat} {H H1 : Heap} (h : zcell D K μ sh a H) (hq : H1[a]? = H[a]?) : zcell D K μ sh a H1 := by
  obtain ⟨t, n⟩ := sh
  match t, h with
  | 0, _ => trivial
  | 1, h => exact hq.trans h
  | 2, h => exact hq.trans h
  | 3, h => exact hq.trans h
  | 4, h => exact hq.trans h
  | 5, h => exact hq.trans h
  | 6, h => exact hq.trans h
  | t + 7, h =>
    obtain ⟨r, h1, h2⟩ := h
    exact ⟨r, h1, h2.kept hq⟩
/-- a cell that speaks of nothing that changed -/
theorem zcell.same {D : zDt} {K : zKd} {μ μ' : zM} {sh : Nat × Nat} {a : Nat} {H : Heap} (h : zcell D K μ sh a H) (hF : ∀ k, gF μ' k a = gF μ k a) (hA : ∀ j, gA μ' a j = gA μ a j) (hB : ∀ k, gB μ' k a = gB μ k a) (hZ : ∀ j, gZ μ' a j = gZ μ a j) (hR : ∀ k, gR μ' k a = gR μ k a) (hX : ∀ j, gX μ' a j = gX μ a j) : zcell D K μ' sh a H := by
  obtain ⟨t, n⟩ := sh
  have ex : ∀ t j, zx K μ' t a j = zx K μ t a j := fun t j => by simp only [zx, hX]
  have ev : ∀ c k, zv K μ' c a k = zv K μ c a k := fun c k => by simp only [zv, hF, hB, hR]
  match t, h with
  | 0, _ => trivial
  | 1, h => exact h.trans (by congr 2; funext j; rw [hA])
  | 2, h => exact h.trans (by congr 2; funext j; rw [hZ])
  | 3, h => exact h.trans (by congr 2; funext j; rw [ex])
  | 4, h => exact h.trans (by congr 2; funext j; rw [ex])
  | 5, h => exact h.trans (by congr 2; funext j; rw [ex])
  | 6, h => exact h.trans (by congr 2; funext j; rw [ex])
  | t + 7, h =>
    obtain ⟨r, h1, h2⟩ := h
    exact ⟨r, h1, h2.to (fun k _ => (ev t k).symm)⟩
/-! the texts: 13 constants of Reader, and what the library's String rests on -/
def zStrs : List (List Int32) := [[110, 101, 116], [97, 103, 101], [100, 101, 108, 97, 121], [98, 114, 105, 100, 103, 101], [112, 114, 105, 111], [111, 108, 100], [108, 105, 110, 107], [101, 100, 103, 101], [116, 111], [99, 111, 115, 116], [116, 97, 107, 101, 115], [104, 111, 115, 116], [97, 116]]
def zLens : List Nat := [3, 3, 5, 6, 4, 3, 4, 4, 2, 4, 5, 4, 2]
def zTxt : List String := ["net", "age", "delay", "bridge", "prio", "old", "link", "edge", "to", "cost", "takes", "host", "at"]
def zNest : List (String × Nat × MethodName) := [("WaveBridges", 21, ⟨"WaveBridges$Due", "<init>", "()V"⟩), ("WaveBridges$Due", 29, ⟨"WaveBridges$Vector", "<init>", "()V"⟩), ("WaveBridges", 28, ⟨"WaveBridges$Shape", "<init>", "()V"⟩), ("WaveBridges", 35, ⟨"WaveBridges$Frame", "<init>", "()V"⟩), ("WaveBridges", 42, ⟨"WaveBridges$Sight", "<init>", "()V"⟩), ("WaveBridges", 55, ⟨"WaveBridges$Wiring", "<init>", "()V"⟩), ("WaveBridges$State", 51, ⟨"WaveBridges$Vector", "<init>", "()V"⟩), ("WaveBridges$Bridge", 11, ⟨"WaveBridges$Vector", "<init>", "()V"⟩), ("WaveBridges$State", 69, ⟨"WaveBridges$Port", "<init>", "()V"⟩), ("WaveBridges$Port", 11, ⟨"WaveBridges$Vector", "<init>", "()V"⟩), ("WaveBridges$State", 70, ⟨"WaveBridges$Message", "<init>", "()V"⟩), ("WaveBridges$Message", 9, ⟨"WaveBridges$Vector", "<init>", "()V"⟩)]
def zAO : List String := [RX0, RX4, RX3, RX8]
def zTx (D : zDt) (U : State) (H : Heap) : Prop := vk_S 13 zLens zStrs D.2.2.2.1 D.2.2.2.2.1 (zAf D) U H ∧ (∀ i, i < 13 → vk_R RX5 (26 + 2 * i) (zTxt.getD i "") (D.2.2.2.1 i) U) ∧ va_Z "java/lang/String" "COMPACT_STRINGS" "Z" (.int 1) (zAf D) U H ∧ va_Zq "jdk/internal/util/Preconditions" "SIOOBE_FORMATTER" "Ljava/util/function/BiFunction;" (zAf D) U H ∧ (∀ q ∈ zNest, va_Nw (.methodLinkNest q.1 q.2.1 q.2.2 "WaveBridges") U) ∧ ∀ C ∈ zAO, va_AO C U
theorem zTx.kept {D : zDt} {U : State} {H H1 : Heap} (h : zTx D U H) (hq : ∀ a : Nat, a < H.size → ¬ zAf D a → H1[a]? = H[a]?) : zTx D U H1 := ⟨h.1.kept hq, h.2.1, h.2.2.1.kept hq, h.2.2.2.1.kept hq, h.2.2.2.2⟩
theorem zTx.warm {D : zDt} {s U : State} {H : Heap} (hW : s.WarmedH U.vm) (h : zTx D s H) : zTx D U H := ⟨h.1.moved hW.alike, fun i hi => (h.2.1 i hi).warm hW, h.2.2.1.moved hW.alike, h.2.2.2.1.moved hW.alike, fun q hq => va_Nw.warmM hW (h.2.2.2.2.1 q hq), fun C hC => (h.2.2.2.2.2 C hC).moved hW.alike⟩
theorem zTx.same {D : zDt} {s U : State} {H : Heap} (hv : U.vm = s.vm) (h : zTx D s H) : zTx D U H := ⟨h.1.moved (by rw [hv]; exact Vm.Alike.refl _), fun i hi => (h.2.1 i hi).same hv, h.2.2.1.moved (by rw [hv]; exact Vm.Alike.refl _), h.2.2.2.1.moved (by rw [hv]; exact Vm.Alike.refl _), fun q hq => va_Nw.same rfl hv.symm (h.2.2.2.2.1 q hq), fun C hC => (h.2.2.2.2.2 C hC).moved (by rw [hv]; exact Vm.Alike.refl _)⟩
/-- the words that every method has -/
def zTb : List Cond := lw_tbl.filter goodWord
theorem zTb_good {w : Cond} (h : w ∈ zTb) : goodWord w = true := (List.mem_filter.mp h).2
theorem zTb_t {w : Cond} (i : Nat) (h : tables_1[i]? = some w) (g : goodWord w = true) : w ∈ zTb := List.mem_filter.mpr ⟨List.mem_append_right _ (List.mem_of_getElem? h), g⟩
theorem zTb_p {w : Cond} (i : Nat) (h : (k2_sels lw_privs)[i]? = some w) (g : goodWord w = true) : w ∈ zTb := List.mem_filter.mpr ⟨List.mem_append_left _ (List.mem_of_getElem? h), g⟩
theorem zTb_in {y y' : MethodName} {b b' : ByteArray} {n n' : Nat} {r r' : Option FieldType} (h : Cond.code y' b' n' r' ∈ zTb) : GoodIn (.code y b n r :: zTb) (.code y' b' n' r' :: zTb) := by
  intro w hw
  have hw' : w ∈ zTb := by
    rcases List.mem_cons.mp hw with h1 | h1
    · rw [h1]; exact h
    · exact h1
  exact ⟨List.mem_cons_of_mem _ hw', good_of_word (zTb_good hw')⟩
def zKn (D : zDt) (U : State) : Prop := va_K (D.1, D.2.1) zcl (zty D) U
/-- a method's world -/
def zWd (D : zDt) (K : zKd) (Sh : zSh) (top : Nat) (μ : zM) (U : State) : Prop := zKn D U ∧ zH D K Sh μ U.heap ∧ U.heap.size = top ∧ True ∧ zTx D U U.heap
/-- the fixed things of a walk -/
abbrev zCx : Type := Program × Launch × Env × Room × State × MethodId × Array Value × List Frame × Method × Code × Nat × (State → Prop) × zDt
abbrev zDo (X : zCx) : zDt := X.2.2.2.2.2.2.2.2.2.2.2.2
abbrev zLo (X : zCx) : Launch := X.2.1
def zFix (X : zCx) (cc : ByteArray) (own : String) (rv : Room) (nv : Nat) : Prop := match X with
  | (p, _, _, R, s, m, args, _, meth, c, nL, _, D) => p.tables.exec = Jvm.exec ∧ c.code = cc ∧ c.maxLocals = nL ∧ s.vm.findClass own = some m.cls ∧ (∀ w ∈ zTb, w.before args s = true) ∧ meth.locks = false ∧ zKn D s ∧ zTx D s s.heap ∧ True ∧ R = rv ∧ nL = nv
def zZ (K : zKd) (X : zCx) (T : zTt) (μ : zM) (pc : Nat) (lv : List (Nat × Value)) (st : List Value) : Prop := match X with
  | (p, l, e, R, s, m, args, below, meth, c, nL, Q, D) => ∀ (H : Heap) (locs : List Loc) (ls : Array Slot), zH D K T.1 μ H → H.size = T.2.1 → va_S (zAf D) s.heap H locs → lv_has ls nL lv → W p l e R s m args below meth c H locs T.2.2.1 T.2.2.2 Q (F0 m pc ls st)
abbrev zd (cc : ByteArray) (pc : Nat) (i : Instr) (n pc' : Nat) : Prop := decode cc pc = .ok (i, n) ∧ pc + n = pc'
abbrev zj (cc : ByteArray) (pc : Nat) (i : Instr) (off : Int) (pc' tgt : Nat) : Prop := decode cc pc = .ok (i, 3) ∧ pc + 3 = pc' ∧ (pc : Int) + off = (tgt : Int)
/-- locals: the one at i is v -/
def zget : List (Nat × Value) → Nat → Option Value
  | [], _ => none
  | (j, w) :: r, i => bif Nat.beq j i then some w else zget r i
def zset : List (Nat × Value) → Nat → Value → List (Nat × Value)
  | [], i, v => [(i, v)]
  | (j, w) :: r, i, v => bif Nat.beq j i then (i, v) :: r.filter (fun q => !(Nat.beq q.1 i)) else (j, w) :: zset r i v
def zone (lv : List (Nat × Value)) : Bool := lv.all fun q => Nat.beq q.2.category 1
theorem zget_at {ls : Array Slot} {nL : Nat} {v : Value} {i : Nat} : ∀ {lv : List (Nat × Value)}, lv_has ls nL lv → zget lv i = some v → ls[i]? = some (.val v)
  | [], _, h => by cases h
  | (j, w) :: r, hl, h => by
    unfold zget at h
    cases hb : Nat.beq j i with
    | true =>
      rw [hb] at h
      have e : j = i := Nat.eq_of_beq_eq_true hb
      have e2 : w = v := Option.some.inj h
      rw [← e, ← e2]
      exact hl.2.2 (j, w) List.mem_cons_self
    | false =>
      rw [hb] at h
      exact zget_at (lv := r) ⟨hl.1, hl.2.1, fun q hq => hl.2.2 q (List.mem_cons_of_mem _ hq)⟩ h
theorem zset_mem {i : Nat} {v : Value} : ∀ {lv : List (Nat × Value)} {q : Nat × Value}, q ∈ zset lv i v → q = (i, v) ∨ (q ∈ lv ∧ q.1 ≠ i)
  | [], q, h => Or.inl (List.mem_singleton.mp h)
  | (j, w) :: r, q, h => by
    unfold zset at h
    cases hb : Nat.beq j i with
    | true =>
      rw [hb] at h
      rcases List.mem_cons.mp h with h1 | h1
      · exact Or.inl h1
      · obtain ⟨h2, h3⟩ := List.mem_filter.mp h1
        refine Or.inr ⟨List.mem_cons_of_mem _ h2, fun e => ?_⟩
        rw [e] at h3
        simp at h3
    | false =>
      rw [hb] at h
      rcases List.mem_cons.mp h with h1 | h1
      · refine Or.inr ⟨by rw [h1]; exact List.mem_cons_self, fun e => ?_⟩
        rw [h1] at e
        rw [show j = i from e] at hb
        simp at hb
      · rcases zset_mem h1 with h2 | ⟨h2, h3⟩
        · exact Or.inl h2
        · exact Or.inr ⟨List.mem_cons_of_mem _ h2, h3⟩
theorem zset_has {ls : Array Slot} {nL i : Nat} {v : Value} {lv : List (Nat × Value)} (hc : zone lv = true) (h : lv_has ls nL ((i, v) :: lv.filter (fun q => !(q.1 == i) && !(q.1 + 1 == i && q.2.category == 2)))) : lv_has ls nL (zset lv i v) := by
  refine ⟨h.1, h.2.1, fun q hq => ?_⟩
  rcases zset_mem hq with h1 | ⟨h1, h2⟩
  · exact h.2.2 q (by rw [h1]; exact List.mem_cons_self)
  · refine h.2.2 q (List.mem_cons_of_mem _ (List.mem_filter.mpr ⟨h1, ?_⟩))
    have h3 := List.all_eq_true.mp hc q h1
    have h4 : q.2.category = 1 := Nat.eq_of_beq_eq_true h3
    simp [h2, h4]
theorem zlv_sub {ls : Array Slot} {nL : Nat} {lv lv' : List (Nat × Value)} (n : Nat) (hn : lv.take n = lv') (h : lv_has ls nL lv) : lv_has ls nL lv' := ⟨h.1, h.2.1, fun q hq => h.2.2 q (List.mem_of_mem_take (by rw [hn]; exact hq))⟩
def ceq (x y : Int32) : Bool := decide (x = y)
def clt (x y : Int32) : Bool := decide (x < y)
theorem ceq_t {x y : Int32} (h : x = y) : ceq x y = true := decide_eq_true h
theorem ceq_f {x y : Int32} (h : ¬ x = y) : ceq x y = false := decide_eq_false h
theorem clt_t {x y : Int32} (h : x < y) : clt x y = true := decide_eq_true h
theorem clt_f {x y : Int32} (h : ¬ x < y) : clt x y = false := decide_eq_false h
theorem zif_t {α : Type} {c : Bool} {A B : Option α} {r : α} (hc : c = true) (h : (if c = true then A else B) = some r) : A = some r := by rw [if_pos hc] at h; exact h
theorem zif_f {α : Type} {c : Bool} {A B : Option α} {r : α} (hc : c = false) (h : (if c = true then A else B) = some r) : B = some r := by rw [if_neg (by rw [hc]; decide)] at h; exact h
theorem bI_or (a b : Bool) : bI a ||| bI b = bI (a || b) := by cases a <;> cases b <;> decide
theorem bI_eq (b : Bool) : ceq (bI b) 0 = !b := by cases b <;> decide
theorem bI_nar (b : Bool) : narrow .boolean (.int (bI b)) = .int (bI b) := by cases b <;> decide
theorem bI_fit (b : Bool) : fits .boolean (.int (bI b)) = true := by cases b <;> decide
