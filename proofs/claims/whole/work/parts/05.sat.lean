/-! WHAT IS MEANT by a place of a method: from every machine that stands there, the method comes to its end. -/
def XE (X : Option (Nat × (Nat → Int32))) (E : EV) : Prop := match X with
  | none => True
  | some (L, xs) => eN E = L ∧ eX E = xs
def Ctx (E : EV) (M : MD) (d N0 N1 : Nat) (R : Room) (p : Program) (s : State) (m : MethodId) (meth : Method) (c : Code) (args : Array Value) : Prop :=
  p.tables.exec = Jvm.exec ∧ c.code = (mY M).2.1 ∧ c.maxLocals = (mY M).2.2.1 ∧ s.vm.findClass (mP M).1 = some m.cls ∧ (∀ w ∈ gw, w.before args s = true) ∧ (mI M = true → meth.name = "<init>") ∧ KK E s ∧ N0 ≤ N1 ∧ N1 ≤ 117 ∧ d ≤ R.frames ∧ 40 * d ≤ R.locals ∧ N1 - N0 ≤ R.cells ∧ sz N1 - sz N0 ≤ R.slots
def retI : Option AV → Instr
  | none => .return_
  | some (.inr (.inr _)) => .areturn
  | some _ => .ireturn
def rkOk (ret : Option FieldType) : Option AV → Prop
  | none => ret = none
  | some (.inl x) => rtOk ret x
  | some (.inr (.inl _)) => False
  | some (.inr (.inr _)) => isRT ret = true
def RetOk (E : EV) (M : MD) (N0 N1 : Nat) (Q : Option AV → ST → Prop) (R : Room) (Z : State → Prop) (p : Program) (e : Env) (s : State) (m : MethodId) (args : Array Value) (below : List Frame) (meth : Method) (c : Code) : Prop :=
  ∀ (H : Heap) (locs : List Loc) (la : Array Slot) (v : Option AV) (σ : ST) (pc : Nat), Rep E H σ → va_S (eA E) s.heap H locs → σ.2.2.1 = N1 → Q v σ → (∀ a, v = some a → vok N1 a) → rkOk (mY M).2.2.2 v → decode (mY M).2.1 pc = .ok (retI v, 1) →
    W p (eL E) e R s m args below meth c H locs (N1 - N0) (sz N1 - sz N0) Z (F0 m pc la (v.toList.map (conc E)))
def HL (E : EV) (la : Array Slot) (nL : Nat) (ls : LV) : Prop := la.size = nL ∧ lv_wf la ∧ ls.length = nL ∧ ∀ i v, lget ls i = some v → la[i]? = some (.val (conc E v))
def Sat (X : Option (Nat × (Nat → Int32))) (M : MD) (d N1 : Nat) (Q : Option AV → ST → Prop) (pc : Nat) (ls : LV) (st : List AV) (σ : ST) : Prop :=
  ∀ (E : EV), XE X E → ∀ (p : Program) (e : Env) (s : State) (m : MethodId) (args : Array Value) (below : List Frame) (meth : Method) (c : Code) (R : Room) (Z : State → Prop) (N0 : Nat),
    Ctx E M d N0 N1 R p s m meth c args → RetOk E M N0 N1 Q R Z p e s m args below meth c → ∀ (H : Heap) (locs : List Loc) (la : Array Slot), Rep E H σ → va_S (eA E) s.heap H locs → HL E la (mY M).2.2.1 ls → N0 ≤ σ.2.2.1 → σ.2.2.1 ≤ N1 →
    (∀ a ∈ st, vok σ.2.2.1 a) → (∀ i a, lget ls i = some a → vok σ.2.2.1 a) → W p (eL E) e R s m args below meth c H locs (σ.2.2.1 - N0) (sz σ.2.2.1 - sz N0) Z (F0 m pc la (st.map (conc E)))
/-- a pool's entries stand in the words -/
def okF (own : String) (e : Nat × (Nat × Nat × Bool × Nat)) : Bool := match e with
  | (idx, ci, j, nest, pl) => match Nat.beq ci 100 with
    | true => decide (lw_tbl[pl]? = some (.fieldLink own idx "java/lang/String" (if j = 0 then "value" else "coder") (if j = 0 then "[B" else "B"))) && !nest && decide (j < 2)
    | false => match vwCl[ci]? with
      | none => false
      | some (C, T, N) => decide (j < N) && (if nest then decide (lw_tbl[pl]? = some (.fieldLinkNest own idx C (T j).2.1 (T j).2.2.1 "OutcropAges")) else decide (lw_tbl[pl]? = some (.fieldLink own idx C (T j).2.1 (T j).2.2.1)) && goodWord (.fieldLink own idx C (T j).2.1 (T j).2.2.1)) && decide ((T j).1 = C) && (nest || decide (C = own))
def pl_ (l : List Nat) (i : Nat) : Nat := nthD l i 99999
def okY (Y : Yd) (na : Nat) : Bool := plainName Y.1.cls && decide (Y.1.cls ≠ "java/lang/invoke/MethodHandle") && decide (Y.1.cls ≠ "java/lang/invoke/VarHandle") && decide ((parseMethodDescriptor Y.1.desc).map (fun d => d.parameters.length) = some na) && decide (Y.2.2.1 ≤ 21)
/-- of a called method, but its code -/
def okM (own : String) (e : Nat × (Nat × Nat × Nat × Yd × List Nat)) : Bool := match e with
  | (idx, kd, na, ci, Y, pl) => match kd with
    | 0 => okY Y na && (match vwCl[ci]? with | some (C, _, _) => decide (Y.1.cls = C) | none => false) && decide (lw_tbl[pl_ pl 0]? = some (.methodLink own idx Y.1)) && decide (lw_tbl[pl_ pl 1]? = some (.instanceMethod Y.1)) && decide (lw_tbl[pl_ pl 2]? = some (.selects Y.1.cls Y.1 Y.1)) && decide (lw_tbl[pl_ pl 3]? = some (.initialized Y.1.cls))
    | 10 => okY Y na && decide (Y.1.cls = "java/lang/String") && decide (lw_tbl[pl_ pl 0]? = some (.methodLink own idx Y.1)) && decide (lw_tbl[pl_ pl 1]? = some (.instanceMethod Y.1)) && decide (lw_tbl[pl_ pl 2]? = some (.selects Y.1.cls Y.1 Y.1)) && decide (lw_tbl[pl_ pl 3]? = some (.initialized Y.1.cls))
    | 1 => okY Y na && (match vwCl[ci]? with | some (C, _, _) => decide (Y.1.cls = C) | none => false) && decide (lw_tbl[pl_ pl 0]? = some (.methodLinkNest own idx Y.1 "OutcropAges")) && decide (lw_tbl[pl_ pl 1]? = some (.instanceMethod Y.1)) && decide (lw_tbl[pl_ pl 2]? = some (.selects Y.1.cls Y.1 Y.1)) && decide (lw_tbl[pl_ pl 3]? = some (.initialized Y.1.cls))
    | 2 => okY Y na && decide (lw_tbl[pl_ pl 0]? = some (.methodLink own idx Y.1)) && decide (lw_tbl[pl_ pl 1]? = some (.static Y.1)) && decide (lw_tbl[pl_ pl 2]? = some (.initialized Y.1.cls))
    | 3 => okY Y na && decide (lw_tbl[pl_ pl 0]? = some (.methodLinkNest own idx Y.1 "OutcropAges")) && decide (lw_tbl[pl_ pl 1]? = some (.static Y.1)) && decide (lw_tbl[pl_ pl 2]? = some (.initialized Y.1.cls))
    | 4 => okY Y na && decide (Y.1.name = "<init>") && decide (Y.2.2.2 = none) && decide (lw_tbl[pl_ pl 0]? = some (.methodLink own idx Y.1)) && decide (lw_tbl[pl_ pl 1]? = some (.instanceMethod Y.1)) && decide (lw_tbl[pl_ pl 2]? = some (.initialized Y.1.cls))
    | 5 => okY Y na && decide (Y.1.name = "<init>") && decide (Y.2.2.2 = none) && decide (lw_tbl[pl_ pl 0]? = some (.methodLinkNest own idx Y.1 "OutcropAges")) && decide (lw_tbl[pl_ pl 1]? = some (.instanceMethod Y.1)) && decide (lw_tbl[pl_ pl 2]? = some (.initialized Y.1.cls))
    | 6 => decide (na = 0) && decide (lw_tbl[pl_ pl 0]? = some (.methodLink own idx objectInit)) && decide (lw_tbl[pl_ pl 1]? = some (.instanceMethod objectInit)) && decide (lw_tbl[pl_ pl 2]? = some (.code objectInit ⟨#[0xb1]⟩ 1 none))
    | 7 => decide (lw_tbl[pl_ pl 0]? = some (.methodLink own idx Lib.Math.max.name)) && decide (lw_tbl[pl_ pl 1]? = some (.static Lib.Math.max.name)) && decide (lw_tbl[pl_ pl 2]? = some (.initialized "java/lang/Math")) && decide (lw_tbl[pl_ pl 3]? = some (.code Lib.Math.max.name Lib.Math.max.code 2 (some .int)))
    | 8 => decide (lw_tbl[pl_ pl 0]? = some (.methodLink own idx Lib.Math.min.name)) && decide (lw_tbl[pl_ pl 1]? = some (.static Lib.Math.min.name)) && decide (lw_tbl[pl_ pl 2]? = some (.initialized "java/lang/Math")) && decide (lw_tbl[pl_ pl 3]? = some (.code Lib.Math.min.name Lib.Math.min.code 2 (some .int)))
    | 9 => decide (lw_tbl[pl_ pl 0]? = some (.methodLink own idx arraycopyName)) && decide (lw_tbl[pl_ pl 1]? = some (.native arraycopyName)) && decide (lw_tbl[pl_ pl 2]? = some (.static arraycopyName)) && decide (lw_tbl[pl_ pl 3]? = some (.initialized "java/lang/System"))
    | _ => false
def okC (own : String) (e : Nat × (Nat × List Nat)) : Bool := match e with
  | (idx, ci, pl) => match vwCl[ci]? with
    | none => false
    | some (C, _, N) => decide (lw_tbl[pl_ pl 0]? = some (.classLink own idx C)) && decide (lw_tbl[pl_ pl 1]? = some (.instantiable C N)) && decide (lw_tbl[pl_ pl 2]? = some (.initialized C))
def okS (own : String) (e : Nat × (Nat × Bool × Nat)) : Bool := match e with
  | (idx, t, nest, pl) => match Nat.beq t 59 with
    | true => !nest && decide (lw_tbl[pl]? = some (.fieldLink own idx "java/lang/String" "COMPACT_STRINGS" "Z"))
    | false => match Nat.beq t 68 with
      | true => !nest && decide (lw_tbl[pl]? = some (.fieldLink own idx "jdk/internal/util/Preconditions" "SIOOBE_FORMATTER" "Ljava/util/function/BiFunction;"))
      | false => decide (60 ≤ t) && decide (t ≤ 64) && (if nest then decide (lw_tbl[pl]? = some (.fieldLinkNest own idx (nthD stN (t - 60) ("", "")).1 (nthD stN (t - 60) ("", "")).2 "[I" "OutcropAges")) else decide (lw_tbl[pl]? = some (.fieldLink own idx (nthD stN (t - 60) ("", "")).1 (nthD stN (t - 60) ("", "")).2 "[I")))
def okL (own : String) (e : Nat × (Int64 × Nat)) : Bool := match e with
  | (idx, v, pl) => decide (lw_tbl[pl]? = some (.constantLong own idx v)) && goodWord (.constantLong own idx v)
def okI (own : String) (e : Nat × (Int32 × Nat)) : Bool := match e with
  | (idx, v, pl) => decide (lw_tbl[pl]? = some (.constant own idx v)) && goodWord (.constant own idx v)
def okT (own : String) (e : Nat × Nat) : Bool := decide (own = RX6) && decide (e.2 < 9) && decide (nthD sidx e.2 0 = e.1)
/-- the code of the methods that a pool names -/
def okW (pm : List (Nat × (Nat × Nat × Nat × Yd × List Nat))) : Prop := ∀ e ∈ pm, e.2.1 ≤ 5 ∨ e.2.1 = 10 → ywd e.2.2.2.2.1 ∈ gw
def okP (P : Pool) : Prop := P.2.1.all (okF P.1) = true ∧ P.2.2.1.all (okM P.1) = true ∧ okW P.2.2.1 ∧ P.2.2.2.1.all (okC P.1) = true ∧ P.2.2.2.2.1.all (okS P.1) = true ∧ P.2.2.2.2.2.1.all (okL P.1) = true ∧ P.2.2.2.2.2.2.1.all (okI P.1) = true ∧ P.2.2.2.2.2.2.2.all (okT P.1) = true
def okE (M : MD) : Bool := plainName (mY M).1.cls && decide ((mP M).1 = (mY M).1.cls) && (!mI M || decide ((mY M).1.name = "<init>"))
def okD (M : MD) : Prop := okP (mP M) ∧ wfc (mC M) = true ∧ (mC M).all chk = true ∧ decT (mY M).2.1 (mC M) = true ∧ okE M = true
/-- the locals at a method's start -/
def mkL : List AV → LV
  | [] => []
  | .inr (.inl x) :: r => some (vl x) :: none :: mkL r
  | a :: r => some a :: mkL r
def padL : Nat → LV → LV
  | 0, _ => []
  | n + 1, [] => none :: padL n []
  | n + 1, a :: r => a :: padL n r
