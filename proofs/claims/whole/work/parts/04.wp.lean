/-! THE STEPS of the abstract machine, as conditions: wpn says what must hold at an instruction so that the method comes to its end with Q. -/
/-- an instruction: its place, itself, its length, numbers that it names (a local, targets), its constant -/
abbrev EN : Type := Nat × Instr × Nat × List Nat × Int32
abbrev LV : Type := List (Option AV)
/-- a class's constant pool, as far as its code names it: fields, methods, classes, statics, longs, ints, texts -/
abbrev Pool : Type := String × List (Nat × (Nat × Nat × Bool × Nat)) × List (Nat × (Nat × Nat × Nat × Yd × List Nat)) × List (Nat × (Nat × List Nat)) × List (Nat × (Nat × Bool × Nat)) × List (Nat × (Int64 × Nat)) × List (Nat × (Int32 × Nat)) × List (Nat × Nat)
abbrev MD : Type := Yd × Pool × Bool × List EN
abbrev mY (M : MD) : Yd := M.1
abbrev mP (M : MD) : Pool := M.2.1
abbrev mI (M : MD) : Bool := M.2.2.1
abbrev mC (M : MD) : List EN := M.2.2.2
def lget : LV → Nat → Option AV
  | [], _ => none
  | a :: _, 0 => a
  | _ :: l, n + 1 => lget l n
def lset : LV → Nat → Option AV → LV
  | [], _, _ => []
  | _ :: l, 0, v => v :: l
  | a :: l, n + 1, v => a :: lset l n v
/-- the place ahead holds a long -/
def plong (ls : LV) : Nat → Bool
  | 0 => false
  | n + 1 => match lget ls n with
    | some (.inr (.inl _)) => true
    | _ => false
def h0 : List Nat → Nat
  | [] => 0
  | a :: _ => a
def sst (ls : LV) (i : Nat) (v : AV) (r : List AV) : Option (LV × List AV) := match plong ls i with
  | true => none
  | false => match Nat.ble ls.length i with
    | true => none
    | false => some (lset ls i (some v), r)
/-- instructions that look at locals and the operand stack alone -/
def sfun (ins : Instr) (tg : List Nat) (cv : Int32) (ls : LV) (st : List AV) : Option (LV × List AV) := match ins with
  | .iconst _ => some (ls, vi cv :: st)
  | .bipush _ => some (ls, vi cv :: st)
  | .sipush _ => some (ls, vi cv :: st)
  | .lconst _ => some (ls, vl 0 :: st)
  | .iload_n _ => (match lget ls (h0 tg) with | some (.inl x) => some (ls, vi x :: st) | _ => none)
  | .iload _ => (match lget ls (h0 tg) with | some (.inl x) => some (ls, vi x :: st) | _ => none)
  | .lload_n _ => (match lget ls (h0 tg) with | some (.inr (.inl x)) => some (ls, vl x :: st) | _ => none)
  | .aload_n _ => (match lget ls (h0 tg) with | some (.inr (.inr (some (t, k)))) => some (ls, vr t k :: st) | _ => none)
  | .aload _ => (match lget ls (h0 tg) with | some (.inr (.inr (some (t, k)))) => some (ls, vr t k :: st) | _ => none)
  | .istore_n _ => (match st with | .inl x :: r => sst ls (h0 tg) (vi x) r | _ => none)
  | .istore _ => (match st with | .inl x :: r => sst ls (h0 tg) (vi x) r | _ => none)
  | .astore_n _ => (match st with | .inr (.inr (some (t, k))) :: r => sst ls (h0 tg) (vr t k) r | _ => none)
  | .lstore_n _ => (match st with | .inr (.inl x) :: r => (match plong ls (h0 tg) with | true => none | false => (match Nat.ble ls.length (h0 tg + 1) with | true => none | false => some (lset (lset ls (h0 tg) (some (vl x))) (h0 tg + 1) none, r))) | _ => none)
  | .iinc _ _ => (match lget ls (h0 tg) with | some (.inl x) => sst ls (h0 tg) (vi (x + cv)) st | _ => none)
  | .iadd => (match st with | .inl y :: .inl x :: r => some (ls, vi (x + y) :: r) | _ => none)
  | .isub => (match st with | .inl y :: .inl x :: r => some (ls, vi (x - y) :: r) | _ => none)
  | .imul => (match st with | .inl y :: .inl x :: r => some (ls, vi (x * y) :: r) | _ => none)
  | .iand => (match st with | .inl y :: .inl x :: r => some (ls, vi (x &&& y) :: r) | _ => none)
  | .ior => (match st with | .inl y :: .inl x :: r => some (ls, vi (x ||| y) :: r) | _ => none)
  | .ixor => (match st with | .inl y :: .inl x :: r => some (ls, vi (x ^^^ y) :: r) | _ => none)
  | .ishl => (match st with | .inl y :: .inl x :: r => some (ls, vi (x <<< (y &&& 31)) :: r) | _ => none)
  | .ishr => (match st with | .inl y :: .inl x :: r => some (ls, vi (x >>> (y &&& 31)) :: r) | _ => none)
  | .iushr => (match st with | .inl y :: .inl x :: r => some (ls, vi ((x.toUInt32 >>> (y.toUInt32 &&& Int32.toUInt32 31)).toInt32) :: r) | _ => none)
  | .land => (match st with | .inr (.inl y) :: .inr (.inl x) :: r => some (ls, vl (x &&& y) :: r) | _ => none)
  | .lor => (match st with | .inr (.inl y) :: .inr (.inl x) :: r => some (ls, vl (x ||| y) :: r) | _ => none)
  | .lshl => (match st with | .inl y :: .inr (.inl x) :: r => some (ls, vl (x <<< (y.toInt64 &&& 63)) :: r) | _ => none)
  | .lshr => (match st with | .inl y :: .inr (.inl x) :: r => some (ls, vl (x >>> (y.toInt64 &&& 63)) :: r) | _ => none)
  | .i2l => (match st with | .inl x :: r => some (ls, vl x.toInt64 :: r) | _ => none)
  | .l2i => (match st with | .inr (.inl x) :: r => some (ls, vi x.toInt32 :: r) | _ => none)
  | .i2c => (match st with | .inl x :: r => some (ls, vi (x.toUInt32 % 65536).toInt32 :: r) | _ => none)
  | .dup => (match st with | .inl x :: r => some (ls, vi x :: vi x :: r) | .inr (.inr q) :: r => some (ls, .inr (.inr q) :: .inr (.inr q) :: r) | _ => none)
  | .pop => (match st with | .inl _ :: r => some (ls, r) | .inr (.inr _) :: r => some (ls, r) | _ => none)
  | .dup2 => (match st with | .inl x :: .inl y :: r => some (ls, vi x :: vi y :: vi x :: vi y :: r) | .inl x :: .inr (.inr q) :: r => some (ls, vi x :: .inr (.inr q) :: vi x :: .inr (.inr q) :: r) | _ => none)
  | _ => none
def wcmp (c : Jvm.ClassFile.Cond) (x y : Int32) (A B : Prop) : Prop := match c with
  | .eq => (x = y → A) ∧ (¬ x = y → B)
  | .ne => (¬ x = y → A) ∧ (x = y → B)
  | .lt => (x < y → A) ∧ (¬ x < y → B)
  | .ge => (y ≤ x → A) ∧ (¬ y ≤ x → B)
  | .gt => (y < x → A) ∧ (¬ y < x → B)
  | .le => (x ≤ y → A) ∧ (¬ x ≤ y → B)
def jmp : List EN → Nat → List EN
  | [], _ => []
  | e :: r, t => match Nat.beq e.1 t with
    | true => e :: r
    | false => jmp r t
def wsw (x : Int32) (go : Nat → Prop) : List Nat → Prop
  | v :: t :: r => (x = nI v → go t) ∧ wsw x go r
  | _ => True
def wdf (x : Int32) (go : Prop) : List Nat → Prop
  | v :: _ :: r => ¬ x = nI v → wdf x go r
  | _ => go
def wref (t1 cd o : Nat) (k : AV → Prop) : Prop := match cd with
  | 0 => k (vr t1 o)
  | 1 => k (vr t1 (2 * o + 1))
  | m + 2 => k (vr t1 m)
def vldB (n t k : Nat) : Bool := Nat.blt (off t k) n
def c60 : List Int32 := nthD ctab 0 []
def c61 : List Int32 := nthD ctab 1 []
def c62 : List Int32 := nthD ctab 2 []
def c63 : List Int32 := nthD ctab 3 []
def c64 : List Int32 := nthD ctab 4 []
def wtab (t : Nat) (i : Int32) (k : Int32 → Prop) : Prop := match t with
  | 60 => vp_in i 10 ∧ k (nthD c60 i.toNatClampNeg 0)
  | 61 => vp_in i 10 ∧ k (nthD c61 i.toNatClampNeg 0)
  | 62 => vp_in i 13 ∧ k (nthD c62 i.toNatClampNeg 0)
  | 63 => vp_in i 13 ∧ k (nthD c63 i.toNatClampNeg 0)
  | 64 => vp_in i 169 ∧ k (nthD c64 i.toNatClampNeg 0)
  | _ => False
/-- instructions that look at the store -/
def whp (X : Option (Nat × (Nat → Int32))) (P : Pool) (ini : Bool) (N1 : Nat) (ins : Instr) (st : List AV) (σ : ST) (k : List AV → ST → Prop) : Prop := match σ with
  | (I, J, n, A) => match ins with
    | .getfield idx => (match alook P.2.1 idx with
      | some (ci, j, _, _) => (match st with
        | .inr (.inr (some (t, o))) :: r => (match Nat.beq ci 100 with
          | true => (match Nat.beq t 66 with
            | true => (match j with
              | 0 => k (vr 67 o :: r) σ
              | _ => k (vi 0 :: r) σ)
            | false => False)
          | false => (match nthD tinfo t (99, 0) with
            | (0, c) => (match Nat.beq c ci with
              | true => (match nthD (nthD ftab ci []) j (9, 0, 0) with
                | (2, t1, cd) => (match A t o j with
                  | true => (match Nat.beq n 117 with
                    | true => wref t1 cd o (fun v => k (v :: r) σ)
                    | false => (match vldB n t1 (rtg cd o) with
                      | true => wref t1 cd o (fun v => k (v :: r) σ)
                      | false => False))
                  | false => False)
                | (0, _, _) => k (vi (I t o j) :: r) σ
                | (1, _, _) => k (vi (I t o j) :: r) σ
                | _ => False)
              | false => False)
            | _ => False))
        | _ => False)
      | none => False)
    | .putfield idx => (match alook P.2.1 idx with
      | some (ci, j, nest, _) => (match st with
        | v :: .inr (.inr (some (t, o))) :: r => (match nthD tinfo t (99, 0) with
          | (0, c) => (match Nat.beq c ci with
            | true => (match nthD (nthD ftab ci []) j (9, 0, 0) with
              | (0, _, _) => (match v with | .inl x => k r (uI I t o j x, J, n, A) | _ => False)
              | (1, _, _) => (match v with | .inl x => (x = 0 ∨ x = 1) ∧ k r (uI I t o j x, J, n, A) | _ => False)
              | (2, t1, cd) => (match ini && !nest with
                | true => (match v with | .inr (.inr (some (t2, o2))) => (t2 = t1 ∧ o2 = rtg cd o) ∧ k r (I, J, n, uA A t o j) | _ => False)
                | false => False)
              | _ => False)
            | false => False)
          | _ => False)
        | _ => False)
      | none => False)
    | .iaload => (match st with
      | .inl i :: .inr (.inr (some (t, o))) :: r => (match nthD tinfo t (99, 0) with
        | (1, m) => vp_in i m ∧ k (vi (I t o i.toNatClampNeg) :: r) σ
        | (99, _) => (match Nat.beq t 65 with
          | true => (match X with | some (L, xs) => vp_in i L ∧ k (vi (xs i.toNatClampNeg) :: r) σ | none => False)
          | false => wtab t i (fun x => k (vi x :: r) σ))
        | _ => False)
      | _ => False)
    | .iastore => (match st with
      | .inl x :: .inl i :: .inr (.inr (some (t, o))) :: r => (match nthD tinfo t (99, 0) with
        | (1, m) => vp_in i m ∧ k r (uI I t o i.toNatClampNeg x, J, n, A)
        | _ => False)
      | _ => False)
    | .baload => (match st with
      | .inl i :: .inr (.inr (some (t, o))) :: r => (match nthD tinfo t (99, 0) with
        | (2, m) => vp_in i m ∧ k (vi (I t o i.toNatClampNeg) :: r) σ
        | (99, _) => (match Nat.beq t 67 with
          | true => vp_in i (nthD slen o 0) ∧ k (vi (nthD (nthD stxt o []) i.toNatClampNeg 0) :: r) σ
          | false => False)
        | _ => False)
      | _ => False)
    | .bastore => (match st with
      | .inl x :: .inl i :: .inr (.inr (some (t, o))) :: r => (match nthD tinfo t (99, 0) with
        | (2, m) => vp_in i m ∧ (x = 0 ∨ x = 1) ∧ k r (uI I t o i.toNatClampNeg x, J, n, A)
        | _ => False)
      | _ => False)
    | .laload => (match st with
      | .inl i :: .inr (.inr (some (t, o))) :: r => (match Nat.beq t 14 with
        | true => vp_in i (tlen 14 o) ∧ k (vl (J o i.toNatClampNeg) :: r) σ
        | false => False)
      | _ => False)
    | .lastore => (match st with
      | .inr (.inl x) :: .inl i :: .inr (.inr (some (t, o))) :: r => (match Nat.beq t 14 with
        | true => vp_in i (tlen 14 o) ∧ k r (I, uJ J o i.toNatClampNeg x, n, A)
        | false => False)
      | _ => False)
    | .aaload => (match st with
      | .inl i :: .inr (.inr (some (t, o))) :: r => (match Nat.beq n 117 with
        | true => (match nthD tinfo t (99, 0) with
          | (4, m) => vp_in i m ∧ (match A t o i.toNatClampNeg with | true => k (vr 3 (10 + i.toNatClampNeg) :: r) σ | false => False)
          | (5, m) => vp_in i m ∧ (I t o i.toNatClampNeg).toNatClampNeg < 12 ∧ (match A t o i.toNatClampNeg with | true => k (vr 3 (I t o i.toNatClampNeg).toNatClampNeg :: r) σ | false => False)
          | (6, m) => vp_in i m ∧ k (vr 10 (5 * o + i.toNatClampNeg) :: r) σ
          | _ => False)
        | false => False)
      | _ => False)
    | .aastore => (match st with
      | .inr (.inr (some (t2, b))) :: .inl i :: .inr (.inr (some (t, o))) :: r => (match Nat.beq t2 3 with
        | true => (match nthD tinfo t (99, 0) with
          | (4, m) => vp_in i m ∧ b = 10 + i.toNatClampNeg ∧ k r (I, J, n, uA A t o i.toNatClampNeg)
          | (5, m) => vp_in i m ∧ k r (uI I t o i.toNatClampNeg (nI b), J, n, uA A t o i.toNatClampNeg)
          | _ => False)
        | false => False)
      | _ => False)
    | .arraylength => (match st with
      | .inr (.inr (some (t, o))) :: r => (match nthD tinfo t (99, 0) with
        | (1, m) => k (vi (nI m) :: r) σ
        | (3, _) => k (vi (nI (tlen t o)) :: r) σ
        | (99, _) => (match Nat.beq t 65 with
          | true => (match X with | some (L, _) => k (vi (nI L) :: r) σ | none => False)
          | false => (match Nat.beq t 67 with
            | true => k (vi (nI (nthD slen o 0)) :: r) σ
            | false => False))
        | _ => False)
      | _ => False)
    | .new idx => (match alook P.2.2.2.1 idx with
      | some (ci, _) => ∃ t o, nthD allIds n (99, 0) = (t, o) ∧ nthD tinfo t (99, 0) = (0, ci) ∧ n + 1 ≤ N1 ∧ k (vr t o :: st) (zI I t o, J, n + 1, zA A t o)
      | none => False)
    | .newarray ty => (match st with
      | .inl c :: r => (match ty with
        | .int => ∃ t o m, nthD allIds n (99, 0) = (t, o) ∧ nthD tinfo t (99, 0) = (1, m) ∧ c = nI m ∧ n + 1 ≤ N1 ∧ k (vr t o :: r) (zI I t o, J, n + 1, A)
        | .boolean => ∃ t o m, nthD allIds n (99, 0) = (t, o) ∧ nthD tinfo t (99, 0) = (2, m) ∧ c = nI m ∧ n + 1 ≤ N1 ∧ k (vr t o :: r) (zI I t o, J, n + 1, A)
        | .long => ∃ o, nthD allIds n (99, 0) = (14, o) ∧ c = nI (tlen 14 o) ∧ n + 1 ≤ N1 ∧ k (vr 14 o :: r) (I, zJ J o, n + 1, A)
        | _ => False)
      | _ => False)
    | .anewarray idx => (match alook P.2.2.2.1 idx with
      | some (ci, _) => (match Nat.beq ci 1 with
        | true => (match st with
          | .inl c :: r => ∃ t o m kd, nthD allIds n (99, 0) = (t, o) ∧ nthD tinfo t (99, 0) = (kd, m) ∧ (kd = 4 ∨ kd = 5) ∧ c = nI m ∧ n + 1 ≤ N1 ∧ k (vr t o :: r) (zI I t o, J, n + 1, zA A t o)
          | _ => False)
        | false => False)
      | none => False)
    | .getstatic idx => (match alook P.2.2.2.2.1 idx with
      | some (s, _, _) => (match Nat.beq s 59 with
        | true => k (vi 1 :: st) σ
        | false => (match Nat.beq s 68 with
          | true => k (vr s 0 :: st) σ ∧ k (.inr (.inr none) :: st) σ
          | false => k (vr s 0 :: st) σ))
      | none => False)
    | .ldc2_w idx => (match alook P.2.2.2.2.2.1 idx with
      | some (v, _) => k (vl v :: st) σ
      | none => False)
    | .ldc_w idx => (match alook P.2.2.2.2.2.2.1 idx with
      | some (v, _) => k (vi v :: st) σ
      | none => False)
    | .ldc idx => (match alook P.2.2.2.2.2.2.2 idx with
      | some i => k (vr 66 i :: st) σ
      | none => False)
    | .idiv => (match st with | .inl y :: .inl x :: r => ¬ y = 0 ∧ k (vi (x / y) :: r) σ | _ => False)
    | .irem => (match st with | .inl y :: .inl x :: r => ¬ y = 0 ∧ k (vi (x - x / y * y) :: r) σ | _ => False)
    | _ => False
def spl : Nat → List AV → List AV → List AV × List AV
  | 0, acc, st => (acc, st)
  | n + 1, acc, a :: st => spl n (a :: acc) st
  | _ + 1, acc, [] => (acc, [])
def wsum : List AV → Nat
  | [] => 0
  | a :: r => avc a + wsum r
/-- calls -/
def wcl (P : Pool) (d N1 : Nat) (ins : Instr) (st : List AV) (σ : ST) (k : List AV → ST → Prop) : Prop := match ins with
  | .invokevirtual idx => (match alook P.2.2.1 idx with
    | some (kd, na, ci, Y, _) => (match spl na [] st with
      | (as, .inr (.inr (some (t, o))) :: r) => (match Nat.ble (wsum r) 8 with
        | true => (match kd with
          | 0 => (match nthD tinfo t (99, 0) with
            | (0, c) => (match Nat.beq c ci with
              | true => ∃ d1 n1, d1 < d ∧ n1 ≤ N1 ∧ Tri d1 Y n1 (vr t o :: as) σ (fun v σ1 => k (v.toList ++ r) σ1)
              | false => False)
            | _ => False)
          | 1 => (match nthD tinfo t (99, 0) with
            | (0, c) => (match Nat.beq c ci with
              | true => ∃ d1 n1, d1 < d ∧ n1 ≤ N1 ∧ Tri d1 Y n1 (vr t o :: as) σ (fun v σ1 => k (v.toList ++ r) σ1)
              | false => False)
            | _ => False)
          | 10 => (match Nat.beq t 66 with
            | true => ∃ d1 n1, d1 < d ∧ n1 ≤ N1 ∧ Tri d1 Y n1 (vr t o :: as) σ (fun v σ1 => k (v.toList ++ r) σ1)
            | false => False)
          | _ => False)
        | false => False)
      | _ => False)
    | none => False)
  | .invokestatic idx => (match alook P.2.2.1 idx with
    | some (kd, na, _, Y, _) => (match kd with
      | 7 => (match st with | .inl y :: .inl x :: r => (match Nat.ble (wsum r) 8 with | true => 0 < d ∧ k (vi (if x < y then y else x) :: r) σ | false => False) | _ => False)
      | 8 => (match st with | .inl y :: .inl x :: r => (match Nat.ble (wsum r) 8 with | true => 0 < d ∧ k (vi (if y < x then y else x) :: r) σ | false => False) | _ => False)
      | 9 => (match st with
        | .inl c :: .inl dp :: .inr (.inr (some (t1, o1))) :: .inl sp :: .inr (.inr (some (t, o))) :: r => (match nthD tinfo t (99, 0) with
          | (1, m) => (match nthD tinfo t1 (99, 0) with
            | (1, m1) => (match Nat.ble (wsum r) 8 && Nat.beq σ.2.2.1 117 with
              | true => 0 < d ∧ ¬ sp < 0 ∧ ¬ dp < 0 ∧ ¬ c < 0 ∧ sp.toNatClampNeg + c.toNatClampNeg ≤ m ∧ dp.toNatClampNeg + c.toNatClampNeg ≤ m1 ∧ k r (cI σ.1 t o t1 o1 sp.toNatClampNeg dp.toNatClampNeg c.toNatClampNeg, σ.2.1, σ.2.2.1, σ.2.2.2)
              | false => False)
            | _ => False)
          | _ => False)
        | _ => False)
      | 2 => (match spl na [] st with
        | (as, r) => (match Nat.ble (wsum r) 8 && Nat.beq as.length na with
          | true => ∃ d1 n1, d1 < d ∧ n1 ≤ N1 ∧ Tri d1 Y n1 as σ (fun v σ1 => k (v.toList ++ r) σ1)
          | false => False))
      | 3 => (match spl na [] st with
        | (as, r) => (match Nat.ble (wsum r) 8 && Nat.beq as.length na with
          | true => ∃ d1 n1, d1 < d ∧ n1 ≤ N1 ∧ Tri d1 Y n1 as σ (fun v σ1 => k (v.toList ++ r) σ1)
          | false => False))
      | _ => False)
    | none => False)
  | .invokespecial idx => (match alook P.2.2.1 idx with
    | some (kd, na, _, Y, _) => (match spl na [] st with
      | (as, .inr (.inr (some (t, o))) :: r) => (match Nat.ble (wsum r) 8 with
        | true => (match kd with
          | 4 => ∃ d1 n1, d1 < d ∧ n1 ≤ N1 ∧ Tri d1 Y n1 (vr t o :: as) σ (fun v σ1 => k (v.toList ++ r) σ1)
          | 5 => ∃ d1 n1, d1 < d ∧ n1 ≤ N1 ∧ Tri d1 Y n1 (vr t o :: as) σ (fun v σ1 => k (v.toList ++ r) σ1)
          | 6 => 0 < d ∧ k r σ
          | _ => False)
        | false => False)
      | _ => False)
    | none => False)
  | _ => False
def rtOk (ret : Option FieldType) (x : Int32) : Prop := match ret with
  | some .int => True
  | some .boolean => x = 0 ∨ x = 1
  | some .char => narrow .char (.int x) = .int x
  | some .byte => narrow .byte (.int x) = .int x
  | _ => False
def isRT : Option FieldType → Bool
  | some (.object _) => true
  | some (.array _) => true
  | _ => false
def wstep (X : Option (Nat × (Nat → Int32))) (M : MD) (d N1 : Nat) (Q : Option AV → ST → Prop) (k : List EN → LV → List AV → ST → Prop) (e : EN) (rest : List EN) (ls : LV) (st : List AV) (σ : ST) : Prop := match e with
  | (_, ins, _, tg, cv) => match ins with
    | .goto _ => k (jmp (mC M) (h0 tg)) ls st σ
    | .ifCond c _ => (match st with | .inl x :: r => wcmp c x 0 (k (jmp (mC M) (h0 tg)) ls r σ) (k rest ls r σ) | _ => False)
    | .if_icmp c _ => (match st with | .inl y :: .inl x :: r => wcmp c x y (k (jmp (mC M) (h0 tg)) ls r σ) (k rest ls r σ) | _ => False)
    | .tableswitch _ _ _ _ => (match st with | .inl x :: r => (match tg with | dt :: ts => wsw x (fun t => k (jmp (mC M) t) ls r σ) ts ∧ wdf x (k (jmp (mC M) dt) ls r σ) ts | [] => False) | _ => False)
    | .lookupswitch _ _ => (match st with | .inl x :: r => (match tg with | dt :: ts => wsw x (fun t => k (jmp (mC M) t) ls r σ) ts ∧ wdf x (k (jmp (mC M) dt) ls r σ) ts | [] => False) | _ => False)
    | .ireturn => (match st with | [.inl x] => σ.2.2.1 = N1 ∧ rtOk (mY M).2.2.2 x ∧ Q (some (vi x)) σ | _ => False)
    | .return_ => (match st with | [] => (mY M).2.2.2 = none ∧ σ.2.2.1 = N1 ∧ Q none σ | _ => False)
    | .areturn => (match st with | [.inr (.inr (some (t, o)))] => isRT (mY M).2.2.2 = true ∧ σ.2.2.1 = N1 ∧ Q (some (vr t o)) σ | _ => False)
    | .invokevirtual i => wcl (mP M) d N1 (.invokevirtual i) st σ (fun st1 σ1 => k rest ls st1 σ1)
    | .invokestatic i => wcl (mP M) d N1 (.invokestatic i) st σ (fun st1 σ1 => k rest ls st1 σ1)
    | .invokespecial i => wcl (mP M) d N1 (.invokespecial i) st σ (fun st1 σ1 => k rest ls st1 σ1)
    | .getfield i => whp X (mP M) (mI M) N1 (.getfield i) st σ (fun st1 σ1 => k rest ls st1 σ1)
    | .putfield i => whp X (mP M) (mI M) N1 (.putfield i) st σ (fun st1 σ1 => k rest ls st1 σ1)
    | .iaload => whp X (mP M) (mI M) N1 .iaload st σ (fun st1 σ1 => k rest ls st1 σ1)
    | .iastore => whp X (mP M) (mI M) N1 .iastore st σ (fun st1 σ1 => k rest ls st1 σ1)
    | .baload => whp X (mP M) (mI M) N1 .baload st σ (fun st1 σ1 => k rest ls st1 σ1)
    | .bastore => whp X (mP M) (mI M) N1 .bastore st σ (fun st1 σ1 => k rest ls st1 σ1)
    | .laload => whp X (mP M) (mI M) N1 .laload st σ (fun st1 σ1 => k rest ls st1 σ1)
    | .lastore => whp X (mP M) (mI M) N1 .lastore st σ (fun st1 σ1 => k rest ls st1 σ1)
    | .aaload => whp X (mP M) (mI M) N1 .aaload st σ (fun st1 σ1 => k rest ls st1 σ1)
    | .aastore => whp X (mP M) (mI M) N1 .aastore st σ (fun st1 σ1 => k rest ls st1 σ1)
    | .arraylength => whp X (mP M) (mI M) N1 .arraylength st σ (fun st1 σ1 => k rest ls st1 σ1)
    | .new i => whp X (mP M) (mI M) N1 (.new i) st σ (fun st1 σ1 => k rest ls st1 σ1)
    | .newarray i => whp X (mP M) (mI M) N1 (.newarray i) st σ (fun st1 σ1 => k rest ls st1 σ1)
    | .anewarray i => whp X (mP M) (mI M) N1 (.anewarray i) st σ (fun st1 σ1 => k rest ls st1 σ1)
    | .getstatic i => whp X (mP M) (mI M) N1 (.getstatic i) st σ (fun st1 σ1 => k rest ls st1 σ1)
    | .ldc2_w i => whp X (mP M) (mI M) N1 (.ldc2_w i) st σ (fun st1 σ1 => k rest ls st1 σ1)
    | .ldc_w i => whp X (mP M) (mI M) N1 (.ldc_w i) st σ (fun st1 σ1 => k rest ls st1 σ1)
    | .ldc i => whp X (mP M) (mI M) N1 (.ldc i) st σ (fun st1 σ1 => k rest ls st1 σ1)
    | .idiv => whp X (mP M) (mI M) N1 .idiv st σ (fun st1 σ1 => k rest ls st1 σ1)
    | .irem => whp X (mP M) (mI M) N1 .irem st σ (fun st1 σ1 => k rest ls st1 σ1)
    | i => (match sfun i tg cv ls st with
      | some (ls1, st1) => k rest ls1 st1 σ
      | none => False)
def elemN : List Nat → Nat → Bool
  | [], _ => false
  | a :: l, n => match Nat.beq a n with
    | true => true
    | false => elemN l n
def wpn (X : Option (Nat × (Nat → Int32))) (M : MD) (d N1 : Nat) (Q : Option AV → ST → Prop) (cuts : List Nat) (K : Nat → LV → List AV → ST → Prop) : Nat → List EN → LV → List AV → ST → Prop
  | 0, _, _, _, _ => False
  | _ + 1, [], _, _, _ => False
  | f + 1, e :: rest, ls, st, σ => wstep X M d N1 Q (fun sfx ls1 st1 σ1 => match sfx with
    | [] => False
    | e1 :: _ => (match elemN cuts e1.1 with
      | true => K e1.1 ls1 st1 σ1
      | false => wpn X M d N1 Q cuts K f sfx ls1 st1 σ1)) e rest ls st σ
/-! what is checked of a table of instructions -/
def swT (pc : Nat) : List Int → Nat → List Nat → Bool
  | [], _, [] => true
  | o :: os, i, v :: t :: r => decide (v = i) && decide ((pc : Int) + o = (t : Int)) && swT pc os (i + 1) r
  | _, _, _ => false
def swL (pc : Nat) : List (Int × Int) → List Nat → Bool
  | [], [] => true
  | (a, o) :: os, v :: t :: r => decide (a = (v : Int)) && decide ((pc : Int) + o = (t : Int)) && decide (v < 2147483648) && swL pc os r
  | _, _ => false
def chk (e : EN) : Bool := match e with
  | (pc, ins, len, tg, cv) => match ins with
    | .iconst n => decide (Int32.ofInt n = cv) && decide (len = 1)
    | .bipush n => decide ((Int8.ofInt n).toInt32 = cv) && decide (len = 2)
    | .sipush n => decide ((Int16.ofInt n).toInt32 = cv) && decide (len = 3)
    | .lconst n => decide ((n : Nat) = 0) && decide (len = 1)
    | .iload_n i => decide ((i : Nat) = h0 tg) && decide (len = 1)
    | .lload_n i => decide ((i : Nat) = h0 tg) && decide (len = 1)
    | .aload_n i => decide ((i : Nat) = h0 tg) && decide (len = 1)
    | .istore_n i => decide ((i : Nat) = h0 tg) && decide (len = 1)
    | .lstore_n i => decide ((i : Nat) = h0 tg) && decide (len = 1)
    | .astore_n i => decide ((i : Nat) = h0 tg) && decide (len = 1)
    | .iload i => decide (i = h0 tg) && decide (len = 2)
    | .aload i => decide (i = h0 tg) && decide (len = 2)
    | .istore i => decide (i = h0 tg) && decide (len = 2)
    | .iinc i n => decide (i = h0 tg) && decide (Int32.ofInt n = cv) && decide (len = 3)
    | .goto o => decide ((pc : Int) + o = (h0 tg : Int)) && decide (len = 3)
    | .ifCond _ o => decide ((pc : Int) + o = (h0 tg : Int)) && decide (len = 3)
    | .if_icmp _ o => decide ((pc : Int) + o = (h0 tg : Int)) && decide (len = 3)
    | .tableswitch df lo hi os => (match tg with | dt :: ts => decide ((pc : Int) + df = (dt : Int)) && decide (lo = 0) && decide (hi + 1 = (os.size : Int)) && decide (os.size < 1000) && swT pc os.toList 0 ts | [] => false)
    | .lookupswitch df ps => (match tg with | dt :: ts => decide ((pc : Int) + df = (dt : Int)) && swL pc ps.toList ts && (ps.toList.zip (ps.toList.drop 1)).all (fun (a, next) => a.1 < next.1) | [] => false)
    | .getfield _ => decide (len = 3)
    | .putfield _ => decide (len = 3)
    | .getstatic _ => decide (len = 3)
    | .new _ => decide (len = 3)
    | .anewarray _ => decide (len = 3)
    | .invokevirtual _ => decide (len = 3)
    | .invokestatic _ => decide (len = 3)
    | .invokespecial _ => decide (len = 3)
    | .ldc _ => decide (len = 2)
    | .ldc_w _ => decide (len = 3)
    | .ldc2_w _ => decide (len = 3)
    | .newarray _ => decide (len = 2)
    | .multianewarray _ _ => decide (len = 4)
    | _ => decide (len = 1)
def wfc : List EN → Bool
  | e :: e1 :: r => decide (e1.1 = e.1 + e.2.2.1) && wfc (e1 :: r)
  | _ => true
def decT (b : ByteArray) (C : List EN) : Bool := C.all (fun e => decide (decode b e.1 = .ok (e.2.1, e.2.2.1)))
