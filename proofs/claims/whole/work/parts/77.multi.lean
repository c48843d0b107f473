/-! A new array of arrays of ints: five rows of 25 -/
section MULTI
variable {p : Program} {l : Launch} {e : Env} {R : Room} {s : State} {m : MethodId} {args : Array Value} {below : List Frame} {meth : Method} {c : Code} {H : Heap} {locs : List Loc} {cells slots : Nat} {Q : State → Prop}
theorem ma_new {E : CtlPost} {d : Bool} {acts : List Action} {u : State} {cA comp : ClassId} {k : Class} {ty : FieldType} {w : Nat} {v : Value} (hk : u.vm.classes[cA]? = some k) (hkd : k.kind = .array comp ty) (h1 : w ≤ e.platform.arrayLengthLimit) (h2 : w * componentBytes ty ≤ e.platform.maxHeapBytes) (hf : fits ty v = true) (h3 : u.heap.size < e.platform.maxCells) (h4 : u.slotsUsed + w ≤ e.platform.maxSlots) {Qa : Addr → Pre} (hq : ∀ acts1, Qa u.heap.size d acts1 (u.pushCell { cls := cA, slots := Array.replicate w v, vm := .none })) : wp (Jvm.newArray cA w v) Qa E e d acts u := by
  have hfit : ∀ i x, (Array.replicate w v)[i]? = some x → u.fitsSlot cA .none i x = true := fun i x hx => by
    rw [Array.getElem?_replicate] at hx
    split at hx
    · cases hx
      simp [State.fitsSlot, State.slotType?, hk, hkd, hf]
    · cases hx
  unfold Jvm.newArray Jvm.arrayFits
  simp only [wp_bind', Jvm.W.ask, Jvm.W.ite, wp_pure', Jvm.W.theClass, Jvm.W.alloc, Jvm.W.stop, hk, hkd, Option.some.injEq, exists_eq_left', Array.size_replicate]
  rw [if_neg (by omega), if_neg (by omega), if_neg (by omega)]
  exact ⟨h3, h4, hfit, hq _⟩
/-- after i rows -/
def ma_G (p : Program) (l : Launch) (e : Env) (R : Room) (s : State) (m : MethodId) (args : Array Value) (below : List Frame) (meth : Method) (c : Code) (H : Heap) (locs : List Loc) (cells slots u0 : Nat) (vm : Vm) (cA cI : ClassId) (i : Nat) (T : State) : Prop :=
  ∃ lx : List Loc, Stand p l e R s m args below meth c T (locs ++ lx) (cells + 1 + i) (slots + 5 + 25 * i) ∧ (∀ x ∈ lx, s.heap.size ≤ x.base) ∧ T.heap.size = H.size + 1 + i ∧ T.vm = vm ∧ T.slotsUsed = u0 + 5 + 25 * i ∧
    (∃ cell : Cell, T.heap[H.size]? = some cell ∧ cell.cls = cA ∧ cell.vm = .none ∧ cell.slots.size = 5 ∧ (∀ j, j < 5 → cell.slots[j]? = some (if j < i then .ref (H.size + 1 + j) else .null)) ∧ cell = { cls := cA, slots := cell.slots, vm := .none }) ∧
    (∀ j, j < i → T.heap[H.size + 1 + j]? = some { cls := cI, slots := Array.replicate 25 (.int 0), vm := .none }) ∧ ∀ q, q < H.size → T.heap[q]? = H[q]?
theorem ma_0 {T : State} {vm : Vm} {cA cI : ClassId} (hT : T.heap = H) (hv : T.vm = vm) (hs : s.heap.size ≤ H.size) (X : Stand p l e R s m args below meth c T locs cells slots) : ma_G p l e R s m args below meth c H locs cells slots T.slotsUsed vm cA cI 0 (T.pushCell { cls := cA, slots := Array.replicate 5 .null, vm := .none }) := by
  have h := X.pushed { cls := cA, slots := Array.replicate 5 .null, vm := .none }
  refine ⟨[], ?_, fun x hx => absurd hx (by simp), ?_, hv, ?_, ⟨{ cls := cA, slots := Array.replicate 5 .null, vm := .none }, ?_, rfl, rfl, ?_, fun j hj => ?_, rfl⟩, fun j hj => absurd hj (by omega), fun q hq => ?_⟩
  · simpa using h
  · simp [hT]
  · simp
  · rw [← hT]
    exact State.heap_pushCell_size _ _
  · simp
  · rw [Array.getElem?_replicate, if_pos hj, if_neg (by omega)]
  · rw [State.heap_pushCell_of_lt (h := by rw [hT]; exact hq), hT]
theorem ma_s {T : State} {vm : Vm} {cA cI : ClassId} {u0 i : Nat} (hs : s.heap.size ≤ H.size) (hi : i < 5) (h : ma_G p l e R s m args below meth c H locs cells slots u0 vm cA cI i T) {cell : Cell} (hcell : (T.pushCell { cls := cI, slots := Array.replicate 25 (.int 0), vm := .none }).heap[H.size]? = some cell) :
    ma_G p l e R s m args below meth c H locs cells slots u0 vm cA cI (i + 1) ((T.pushCell { cls := cI, slots := Array.replicate 25 (.int 0), vm := .none }).setCell H.size (cell.setSlot i (.ref T.heap.size))) := by
  obtain ⟨lx, X, x1, x2, x3, x4, ⟨c0, y1, y2, y3, y4, y5, y6⟩, x6, x7⟩ := h
  have hlt : H.size < T.heap.size := by omega
  have hc0 : cell = c0 := by
    rw [State.heap_pushCell_of_lt (h := hlt), y1] at hcell
    exact (Option.some.inj hcell).symm
  subst hc0
  have hp := (X.pushed { cls := cI, slots := Array.replicate 25 (.int 0), vm := .none }).stored hcell i (.ref T.heap.size)
  refine ⟨lx ++ [⟨H.size, i⟩], ?_, fun x hx => ?_, ?_, x3, ?_, ⟨_, State.heap_setCell_self hcell, ?_, ?_, ?_, fun j hj => ?_, ?_⟩, fun j hj => ?_, fun q hq => ?_⟩
  · rw [← List.append_assoc]
    have e1 : cells + 1 + i + 1 = cells + 1 + (i + 1) := by omega
    have e2 : slots + 5 + 25 * i + 25 = slots + 5 + 25 * (i + 1) := by omega
    rw [← e1, ← e2]
    simpa using hp
  · rcases List.mem_append.mp hx with z | z
    · exact x1 x z
    · rw [List.mem_singleton.mp z]
      exact hs
  · simp [x2]
    omega
  · simp [x4]
    omega
  · simp [Cell.setSlot, y2]
  · simp [Cell.setSlot, y3]
  · simp [Cell.setSlot, y4]
  · simp only [Cell.setSlot, Array.getElem?_setIfInBounds]
    by_cases ej : i = j
    · subst ej
      rw [if_pos rfl, if_pos (by omega), if_pos (by omega), x2]
    · rw [if_neg ej, y5 j hj]
      by_cases z : j < i
      · rw [if_pos z, if_pos (by omega)]
      · rw [if_neg z, if_neg (by omega)]
  · rw [y6]
    rfl
  · rw [State.heap_setCell_other (show H.size ≠ H.size + 1 + j by omega)]
    by_cases ej : j < i
    · rw [State.heap_pushCell_of_lt (h := show H.size + 1 + j < T.heap.size by omega)]
      exact x6 j ej
    · have : j = i := by omega
      subst this
      rw [← x2]
      exact State.heap_pushCell_size _ _
  · rw [State.heap_setCell_other (show H.size ≠ q by omega), State.heap_pushCell_of_lt (h := show q < T.heap.size by omega)]
    exact x7 q hq
theorem ma_make {g : JFrame} {T : State} {vm : Vm} {cA cI cc : ClassId} {kA kI : Class} (hT : T.heap = H) (hv : T.vm = vm) (hs : s.heap.size ≤ H.size) (X : Stand p l e R s m args below meth c T locs cells slots)
    (hkA : vm.classes[cA]? = some kA) (hkdA : kA.kind = .array cI (.array .int)) (hkI : vm.classes[cI]? = some kI) (hkdI : kI.kind = .array cc .int) (hr1 : H.size + 6 ≤ e.platform.maxCells) (hr2 : T.slotsUsed + 130 ≤ e.platform.maxSlots) (hlim : 25 ≤ e.platform.arrayLengthLimit) (hheap : 100 ≤ e.platform.maxHeapBytes)
    {E : CtlPost} {d : Bool} {acts : List Action} {Qa : Addr → Pre} (hq : ∀ T1 d1 acts1, ma_G p l e R s m args below meth c H locs cells slots T.slotsUsed vm cA cI 5 T1 → Qa H.size d1 acts1 (T1.setTop g)) : wp (multianewarray.make cA [5, 25]) Qa E e d acts (T.setTop g) := by
  have hk1 : (T.setTop g).vm.classes[cA]? = some kA := by show T.vm.classes[cA]? = _; rw [hv]; exact hkA
  rw [multianewarray.make]
  simp only [wp_bind', Jvm.W.ite, wp_pure', Jvm.W.theClass, hk1, hkdA, Option.some.injEq, exists_eq_left']
  rw [if_neg (by decide)]
  have e5 : (5 : Int32).toNatClampNeg = 5 := by decide
  rw [e5]
  refine ma_new hk1 hkdA (by omega) (show 5 * 4 ≤ _ by omega) rfl (by show T.heap.size < _; rw [hT]; omega) (by show T.slotsUsed + 5 ≤ _; omega) fun acts1 => ?_
  have hsz : (T.setTop g).heap.size = H.size := by show T.heap.size = _; rw [hT]
  have hfind : ([(25 : Int32)].find? (· < 0)) = none := by decide
  simp only [hfind, ite_self, wp_bind', wp_pure']
  rw [Std.Legacy.Range.forIn_eq_forIn_range', hsz]
  refine wp_forIn_inv (fun rest u => ∃ i T1, i ≤ 5 ∧ rest = List.range' i (5 - i) ∧ u = T1.setTop g ∧ ma_G p l e R s m args below meth c H locs cells slots T.slotsUsed vm cA cI i T1) _ _ ⟨0, _, by omega, rfl, rfl, ma_0 hT hv hs X⟩ ?_ ?_
  · rintro x rest u d1 acts2 Q1 ⟨i, T1, hi, hl, rfl, hG⟩ hnext
    have hi5 : i < 5 := by
      rcases Nat.lt_or_ge i 5 with z | z
      · exact z
      · rw [show 5 - i = 0 by omega] at hl
        simp at hl
    obtain ⟨hx, hrest⟩ : x = i ∧ rest = List.range' (i + 1) (5 - (i + 1)) := by
      rw [show 5 - i = (5 - (i + 1)) + 1 by omega, List.range'_succ] at hl
      exact ⟨(List.cons.inj hl).1, (List.cons.inj hl).2⟩
    subst hx
    obtain ⟨lx, X1, x1, x2, x3, x4, ⟨c0, y1, y2, y3, y4, y5, y6⟩, x6, x7⟩ := id hG
    have hk2 : (T1.setTop g).vm.classes[cI]? = some kI := by show T1.vm.classes[cI]? = _; rw [x3]; exact hkI
    have hlt : H.size < T1.heap.size := by omega
    have hcell : (T1.pushCell { cls := cI, slots := Array.replicate 25 (.int 0), vm := .none }).heap[H.size]? = some c0 := by
      rw [State.heap_pushCell_of_lt (h := hlt)]
      exact y1
    have e25 : (25 : Int32).toNatClampNeg = 25 := by decide
    simp only [wp_bind']
    rw [multianewarray.make]
    simp only [wp_bind', Jvm.W.ite, wp_pure', Jvm.W.theClass, hk2, hkdI, Option.some.injEq, exists_eq_left']
    rw [if_neg (by decide), e25]
    refine ma_new hk2 hkdI (by omega) (show 25 * 4 ≤ _ by omega) rfl (by show T1.heap.size < _; omega) (by show T1.slotsUsed + 25 ≤ _; omega) fun acts3 => ?_
    simp only [wp_bind', Jvm.W.writeLoc, wp_pure']
    refine ⟨c0, hcell, by rw [y3]; simp, by omega, ?_, hnext _ _ _ ⟨x + 1, _, by omega, hrest, ?_, ma_s hs hi5 hG hcell⟩⟩
    · have hk3 : (T1.pushCell { cls := cI, slots := Array.replicate 25 (.int 0), vm := .none }).vm.classes[c0.cls]? = some kA := by show T1.vm.classes[c0.cls]? = _; rw [x3, y2]; exact hkA
      rw [y3]
      show State.fitsSlot _ _ _ _ _ = true
      simp [State.fitsSlot, State.slotType?, y2, x3, hkA, hkdA]
      rfl
    · rfl
  · rintro u d1 acts2 ⟨i, T1, hi, hl, rfl, hG⟩
    have hi5 : i = 5 := by
      rcases Nat.lt_or_ge i 5 with z | z
      · rw [show 5 - i = (5 - (i + 1)) + 1 by omega, List.range'_succ] at hl
        cases hl
      · omega
    subst hi5
    exact hq T1 d1 acts2 hG
end MULTI
