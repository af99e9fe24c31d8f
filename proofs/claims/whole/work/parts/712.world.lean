/-! THE LAW: both worlds, a case -/
def Ax (x q : Nat) : Prop := (x ≤ q ∧ q < x + 573) ∨ x + 610 ≤ q
def Am (x q : Nat) : Prop := x + 573 ≤ q ∧ q < x + 610
/-- both worlds on one heap -/
def lP (D : zDt) (x : Nat) (Shx Shm : zSh) (top : Nat) (μ ν : zM) (H : Heap) : Prop := zH (zDa D (Ax x)) zK1 Shx μ H ∧ zH (zDa D (Am x)) zK1 Shm ν H ∧ H.size = top
def lvL (b x i : Nat) : List (Nat × Value) := [(0, .ref b), (1, .ref x), (2, .ref (x + 573)), (3, .int (nI i))]
/-- what stands in the law's loop -/
def LC (X : zCx) (b L : Nat) (xs : Nat → Int32) (x : Nat) : Prop := zFix X code RL room_1 4 ∧ va_X b L xs X.2.2.2.2.1 X.2.2.2.2.1.heap ∧ b < x ∧ x = X.2.2.2.2.1.heap.size ∧ (∀ q, zAf (zDo X) q ↔ x ≤ q) ∧ L ≤ 3072
/-- before a call -/
def LJ (X : zCx) (x : Nat) (Shx Shm : zSh) (top : Nat) (μ ν : zM) (cs ss : Nat) : Prop := JR x (x + 573) top μ ν ∧ zPk (zDa (zDo X) (Ax x)) Shx top x ∧ zOK Shm ∧ (Shm (x + 573)).1 = 19 ∧ cs + 261 ≤ 600000 ∧ ss + 1976 ≤ 7302250
section zLx
variable {X : zCx} {P : Heap → Prop} {b L x i j n ci cs ss top top' mc ms ix maxL pc pc' : Nat} {xs : Nat → Int32} {Shx Shx' Shm : zSh} {μ μ' ν ν' : zM} {st : List Value} {lv : List (Nat × Value)} {y : MethodName} {cc' : ByteArray} {ret : Option FieldType} {rm : Room} {As : List Value} {r r' : Int32}
theorem l_a (C : LC X b L xs x) (hi : i + 6 ≤ L) {n : Int} (hn : Int32.ofInt n = nI j) (hj : j < 6) (d1 : decode code pc = .ok (.aload_n 0, 1)) (d2 : decode code (pc + 1) = .ok (.iload_n 3, 1)) (d3 : decode code (pc + 2) = .ok (.iconst n, 1)) (d4 : decode code (pc + 3) = .ok (.iadd, 1)) (d5 : decode code (pc + 4) = .ok (.iaload, 1)) (k : lZ X P cs ss (pc + 5) (lvL b x i) (.int (xs (i + j)) :: st)) : lZ X P cs ss pc (lvL b x i) st := by
  obtain ⟨fx, hX, hb, hs, hA, hL⟩ := C
  exact l_arg fx hX (by omega) (fun y => absurd ((hA b).mp y) (by omega)) (by omega) rfl rfl hn (by omega) d1 d2 d3 d4 d5 rfl k
theorem l_cx (C : LC X b L xs x) (hM : zMet (zLo X) (zDa (zDo X) (Ax x)) zK1 y cc' maxL ret rm (.ref x :: As) Shx top μ (some (.int r)) Shx' top' μ' mc ms) (hk : zPk (zDa (zDo X) (Ax x)) Shx top x) (hw : zMv y cc' maxL ret n 11) (hl : Cond.methodLink RL ix y ∈ zTb) (hn : As.length = n) (hr : rm.cells = mc ∧ rm.slots = ms ∧ Nat.ble (rm.frames + 1) 16 = true ∧ Nat.ble (8 + (maxL + 11) + rm.locals) 654 = true) (hc : cs + mc ≤ 600000 ∧ ss + ms ≤ 7302250) (hst : st = As.reverse ++ [.ref x]) (d : decode code pc = .ok (.invokevirtual ix, 3)) (k : lZ X (lP (zDo X) x Shx' Shm top' μ' ν) (cs + mc) (ss + ms) (pc + 3) lv [.int r]) : lZ X (lP (zDo X) x Shx Shm top μ ν) cs ss pc lv st := by
  obtain ⟨fx, hX, hb, hs, hA, hL⟩ := C
  refine l_call fx (A := Ax x) (fun q y => (hA q).mpr (by unfold Ax at y; omega)) [] hM hw hl hk.2.2.2.2 hn ⟨hr.1, hr.2.1, Nat.le_of_ble_eq_true hr.2.2.1, Nat.le_of_ble_eq_true hr.2.2.2, hc.1, hc.2⟩ hst (by decide) ⟨d, rfl⟩ (fun H h => ⟨h.1, h.2.2⟩) (fun H H1 h g1 g2 g3 g4 => ?_) k
  exact ⟨g1, h.2.1.kept (fun a ha hm => g4 a ha (fun y => by
    have hm : Am x a := hm
    unfold Am at hm; unfold Ax at y; omega)), g2⟩
theorem l_cm (C : LC X b L xs x) (hM : zMet (zLo X) (zDa (zDo X) (Am x)) zK1 y cc' maxL ret rm (.ref (x + 573) :: As) Shm top ν (some (.int r')) Shm top ν' 0 0) (hm : (Shm (x + 573)).1 = 19) (hw : zMv y cc' maxL ret n 12) (hl : Cond.methodLink RL ix y ∈ zTb) (hn : As.length = n) (hr : rm.cells = 0 ∧ rm.slots = 0 ∧ Nat.ble (rm.frames + 1) 16 = true ∧ Nat.ble (8 + (maxL + 11) + rm.locals) 654 = true) (hc : cs ≤ 600000 ∧ ss ≤ 7302250) (hst : st = As.reverse ++ [.ref (x + 573), .int r]) (d : decode code pc = .ok (.invokevirtual ix, 3)) (k : lZ X (lP (zDo X) x Shx Shm top μ ν') cs ss (pc + 3) lv [.int r', .int r]) : lZ X (lP (zDo X) x Shx Shm top μ ν) cs ss pc lv st := by
  obtain ⟨fx, hX, hb, hs, hA, hL⟩ := C
  refine l_call fx (A := Am x) (fun q y => (hA q).mpr (by unfold Am at y; omega)) [.int r] hM hw hl hm hn ⟨hr.1, hr.2.1, Nat.le_of_ble_eq_true hr.2.2.1, Nat.le_of_ble_eq_true hr.2.2.2, hc.1, hc.2⟩ hst (Nat.le_of_ble_eq_true rfl) ⟨d, rfl⟩ (fun H h => ⟨h.2.1, h.2.2⟩) (fun H H1 h g1 g2 g3 g4 => ?_) k
  exact ⟨h.1.kept (fun a ha hm => g4 a ha (fun y => by
    have hm : Ax x a := hm
    unfold Ax at hm; unfold Am at y; omega)), g1, g2⟩
theorem l_widen {cs' ss' : Nat} (h1 : cs ≤ cs') (h2 : ss ≤ ss') (k : lZ X P cs' ss' pc lv st) : lZ X P cs ss pc lv st := by
  obtain ⟨p, l, e, R, s, m, args, below, meth, c, nL, Q, D⟩ := X
  intro H locs ls g1 g2 g3
  exact W.widen (k := cs') (n := ss') h1 h2 (k H locs ls g1 g2 g3)
/-- both answered alike -/
theorem l_eq {cs' ss' : Nat} (C : LC X b L xs x) {off : Int} {tgt : Nat} (h1 : cs ≤ cs' ∧ ss ≤ ss') (d : zj code pc (.if_icmp .eq off) off pc' tgt) (k : lZ X P cs' ss' tgt lv []) : lZ X P cs ss pc lv [.int r, .int r] := by
  refine l_icmp_eq C.1 d (fun _ => l_widen h1.1 h1.2 k) (fun y => ?_)
  rw [show ceq r r = true from decide_eq_true rfl] at y
  cases y
end zLx
