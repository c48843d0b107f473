/-! THE WORDS AND THE STATICS that every method of the claim stands on. -/
def gw : List Cond := lw_tbl.filter goodWord
theorem inG {w : Cond} {i : Nat} (h : lw_tbl[i]? = some w) (hg : goodWord w = true) : w ∈ gw := List.mem_filter.mpr ⟨List.mem_of_getElem? h, hg⟩
theorem gw_good {w : Cond} (h : w ∈ gw) : (w.onTables && w.keeps) = true ∨ ∃ ty, w = .arrayClass ty := good_of_word (List.mem_filter.mp h).2
def isNest : Cond → Bool
  | .fieldLinkNest .. => true
  | .methodLinkNest .. => true
  | _ => false
def nestW : List Cond := lw_tbl.filter isNest
theorem inN {w : Cond} {i : Nat} (h : lw_tbl[i]? = some w) (hg : isNest w = true) : w ∈ nestW := List.mem_filter.mpr ⟨List.mem_of_getElem? h, hg⟩
/-- an array of arrays of ints can be made -/
def AOA (U : State) : Prop := (Cond.arrayOver (.array .int)).before #[] U = true
theorem AOA.spec {s : State} (h : AOA s) : ∃ comp c k, s.vm.findClass (FieldType.array .int).toString = some comp ∧ (s.vm.classes.findIdx? fun (x : Class) => match x.kind with | .array component _ => component == comp | _ => false) = some c ∧ s.vm.classes[c]? = some k ∧ k.kind = .array comp (.array .int) ∧ s.vm.findClass ("[" ++ (FieldType.array .int).toString) = some c := by
  simp only [AOA, Cond.before, Cond.holds, Cond.value, beq_iff_eq] at h
  cases hc : s.vm.findClass (FieldType.array .int).toString with
  | none => simp [hc] at h
  | some comp =>
    simp only [hc, Option.bind_some, Option.bind_eq_some_iff, Option.map_eq_some_iff] at h
    obtain ⟨c, hi, k, hk, hb⟩ := h
    obtain ⟨hlt, hp, -⟩ := Array.findIdx?_eq_some_iff_getElem.mp hi
    have hkk : s.vm.classes[c] = k := (Array.getElem?_eq_some_iff.mp hk).2
    rw [hkk] at hp
    cases hkind : k.kind with
    | array component ty =>
      rw [hkind] at hb hp
      simp at hb hp
      exact ⟨comp, c, k, rfl, hi, hk, by rw [hkind, hp, hb.1], hb.2⟩
    | _ => rw [hkind] at hb; simp at hb
theorem AOA.moved {u U : State} (hvm : u.vm.Alike U.vm) (h : AOA u) : AOA U := by
  obtain ⟨comp, c, k, h1, h2, h3, h4, h5⟩ := AOA.spec h
  obtain ⟨k', hk', he⟩ := hvm.2.2 _ _ h3
  have hi : (U.vm.classes.findIdx? fun (x : Class) => match x.kind with | .array component _ => component == comp | _ => false) = some c := by
    refine (va_idx_bare U.vm comp).symm.trans ?_
    first | rw [hvm.bare_eq] | rw [← hvm.bare_eq]
    exact (va_idx_bare u.vm comp).trans h2
  have hkind : k'.kind = .array comp (.array .int) := by rw [he]; exact h4
  have f1 : U.vm.findClass (FieldType.array .int).toString = some comp := by rw [hvm.findClass]; exact h1
  have f2 : U.vm.findClass ("[" ++ (FieldType.array .int).toString) = some c := by rw [hvm.findClass]; exact h5
  unfold AOA Cond.before Cond.holds
  simp only [Cond.value]
  rw [f1, Option.bind_some]
  refine (congrArg (fun o : Option Nat => (o.bind (fun c => (U.vm.classes[c]?).map fun (k : Class) => match k.kind with | .array _ ty => decide (ty = FieldType.array .int) && decide (U.vm.findClass ("[" ++ (FieldType.array .int).toString) = some c) | _ => false) == some true)) hi).trans ?_
  simp [hk', hkind, f2]
def stN : List (String × String) := [("OutcropAges", "LOWER"), ("OutcropAges", "HIGHER"), ("OutcropAges$Line", "BEGIN_ZONE"), ("OutcropAges$Line", "END_ZONE"), ("OutcropAges$Algebra", "TWO")]
def sidx : List Nat := [54, 87, 89, 91, 93, 95, 97, 99, 101]
def snam : List String := ["events", "before", "covers", "cuts", "outlasts", "within", "with", "touches", "same"]
abbrev KKt (E : EV) : List (ClassId × FieldType) := [(eC E 0, .int), (eC E 1, .boolean), (eC E 2, .long), (eC E 3, .object RX1), (eC E 4, .array .int)]
def KKz (E : EV) (U : State) : Prop := (∀ i, i < 5 → va_Z (nthD stN i ("", "")).1 (nthD stN i ("", "")).2 "[I" (.ref (eS E (60 + i) 0)) (eA E) U U.heap ∧ va_T .int (eS E (60 + i) 0) (nthD clen i 0) (fun j => .int (nthD (nthD ctab i []) j 0)) (eA E) U U.heap) ∧
  (va_Z "java/lang/String" "COMPACT_STRINGS" "Z" (.int 1) (eA E) U U.heap ∧ (va_Z "jdk/internal/util/Preconditions" "SIOOBE_FORMATTER" "Ljava/util/function/BiFunction;" .null (eA E) U U.heap ∨ va_Z "jdk/internal/util/Preconditions" "SIOOBE_FORMATTER" "Ljava/util/function/BiFunction;" (.ref (eS E 68 0)) (eA E) U U.heap)) ∧ vk_S 9 slen stxt (eS E 66) (eS E 67) (eA E) U U.heap ∧ va_X (eS E 65 0) (eN E) (eX E) U U.heap
def KK (E : EV) (U : State) : Prop := va_K (eD E) vwCl (KKt E) U ∧ (∀ w ∈ nestW, va_Nw w U) ∧ va_AO RX1 U ∧ AOA U ∧ KKz E U ∧ (∀ i, i < 9 → vk_R RX6 (nthD sidx i 0) (nthD snam i "") (eS E 66 i) U) ∧ eS E 65 0 < eB E ∧ eN E ≤ 2048 ∧ eB E ≤ U.heap.size
theorem KKz.move {E : EV} {s U : State} (hA : s.vm.Alike U.vm) (hq : ∀ q : Nat, q < eB E → U.heap[q]? = s.heap[q]?) (hs : eS E 65 0 < eB E) (h : KKz E s) : KKz E U := by
  have hq' : ∀ a : Nat, a < s.heap.size → ¬ eA E a → U.heap[a]? = s.heap[a]? := fun a _ h2 => hq a (Nat.not_le.mp h2)
  obtain ⟨h1, h2, h3, h4⟩ := h
  exact ⟨fun i hi => ⟨((h1 i hi).1.moved hA).kept hq', ((h1 i hi).2.moved hA).kept hq'⟩, ⟨(h2.1.moved hA).kept hq', h2.2.elim (fun z => Or.inl ((z.moved hA).kept hq')) (fun z => Or.inr ((z.moved hA).kept hq'))⟩, (h3.moved hA).kept hq', (h4.moved hA).kept (hq _ hs)⟩
theorem nest_warm {w : Cond} (hw : isNest w = true) {s U : State} (hW : s.WarmedH U.vm) (h : va_Nw w s) : va_Nw w U := by
  cases w <;> first | exact va_Nw.warmF hW h | exact va_Nw.warmM hW h | (simp [isNest] at hw)
theorem KK.move {E : EV} {s U : State} (hW : s.WarmedH U.vm) (hq : ∀ q : Nat, q < eB E → U.heap[q]? = s.heap[q]?) (hz : eB E ≤ U.heap.size) (h : KK E s) : KK E U := by
  obtain ⟨h1, h2, h3, h4, h5, h6, h7, h8, h9⟩ := h
  have hA := hW.alike
  exact ⟨h1.moved hA, fun w hw => nest_warm (List.mem_filter.mp hw).2 hW (h2 w hw), h3.moved hA, h4.moved hA, h5.move hA hq h7, fun i hi => (h6 i hi).warm hW, h7, h8, hz⟩
theorem nest_same {w : Cond} (hw : isNest w = true) {s U : State} (hv : s.vm = U.vm) (h : va_Nw w s) : va_Nw w U := by
  cases w <;> first | exact va_Nw.same rfl hv h | (simp [isNest] at hw)
theorem KK.same {E : EV} {s U : State} (hv : U.vm = s.vm) (hh : U.heap = s.heap) (h : KK E s) : KK E U := by
  obtain ⟨h1, h2, h3, h4, h5, h6, h7, h8, h9⟩ := h
  have hA : s.vm.Alike U.vm := by rw [hv]; exact Vm.Alike.refl _
  exact ⟨h1.moved hA, fun w hw => nest_same (List.mem_filter.mp hw).2 hv.symm (h2 w hw), h3.moved hA, h4.moved hA, h5.move hA (fun q _ => by rw [hh]) h7, fun i hi => (h6 i hi).same hv, h7, h8, by rw [hh]; exact h9⟩
/-! A method's CONTRACT over the abstract machine: from the store σ with these arguments, at most d frames below it, it returns with Q. -/
abbrev Yd : Type := MethodName × ByteArray × Nat × Option FieldType
abbrev ywd (Y : Yd) : Cond := .code Y.1 Y.2.1 Y.2.2.1 Y.2.2.2
def rmd (d mc ms : Nat) : Room := { frames := d, cells := mc, slots := ms, locals := 40 * d }
def PcA (E : EV) (as : List AV) (σ : ST) : Array Value → State → Prop := fun v U => v = (as.map (conc E)).toArray ∧ KK E U ∧ Rep E U.heap σ ∧ ∀ a ∈ as, vok σ.2.2.1 a
def QcA (E : EV) (n1 : Nat) (Q : Option AV → ST → Prop) : Array Value → State → Outcome → State → Prop := fun _ st oc t => (∃ (r : Option AV) (σ : ST), oc = .returned (r.map (conc E)) ∧ Q r σ ∧ Rep E t.heap σ ∧ σ.2.2.1 = n1 ∧ ∀ a, r = some a → vok n1 a) ∧ va_F (eA E) st t
def Tri (d : Nat) (Y : Yd) (n1 : Nat) (as : List AV) (σ : ST) (Q : Option AV → ST → Prop) : Prop :=
  σ.2.2.1 ≤ n1 ∧ n1 ≤ 117 ∧ ∀ E : EV, Met (eL E) Y.1 (ywd Y :: gw) (rmd d (n1 - σ.2.2.1) (sz n1 - sz σ.2.2.1)) (PcA E as σ) (QcA E n1 Q) (n1 - σ.2.2.1) (sz n1 - sz σ.2.2.1) (eA E)
theorem PcA.blind {E : EV} {as : List AV} {σ : ST} : FrameBlind (PcA E as σ) := by
  intro a U g mk h
  obtain ⟨h1, h2, h3, h4⟩ := h
  exact ⟨h1, KK.same (s := U) rfl rfl h2, h3, h4⟩
theorem Tri.mono {d : Nat} {Y : Yd} {n1 : Nat} {as : List AV} {σ : ST} {Q Q1 : Option AV → ST → Prop} (h : Tri d Y n1 as σ Q) (hQ : ∀ r σ, Q r σ → Q1 r σ) : Tri d Y n1 as σ Q1 := by
  obtain ⟨h1, h2, h3⟩ := h
  refine ⟨h1, h2, fun E => ?_⟩
  intro p e ha hc hk s m args below hf happ hP hK
  obtain ⟨n, o, a1, a2, a3, ⟨⟨r, σ1, b1, b2, b3⟩, b4⟩, a5⟩ := h3 E p e ha hc hk s m args below hf happ hP hK
  exact ⟨n, o, a1, a2, a3, ⟨⟨r, σ1, b1, hQ r σ1 b2, b3⟩, b4⟩, a5⟩
