/-! THE ABSTRACT MACHINE: values whose references are (tag, number), a store by tag, number and place; what each tag is. -/
abbrev AV : Type := Int32 ⊕ Int64 ⊕ Option (Nat × Nat)
abbrev vi (x : Int32) : AV := Sum.inl x
abbrev vl (x : Int64) : AV := Sum.inr (Sum.inl x)
abbrev vr (t k : Nat) : AV := Sum.inr (Sum.inr (some (t, k)))
abbrev vnul : AV := Sum.inr (Sum.inr none)
def avc : AV → Nat
  | .inl _ => 1
  | .inr (.inl _) => 2
  | .inr (.inr _) => 1
abbrev SI : Type := Nat → Nat → Nat → Int32
abbrev SJ : Type := Nat → Nat → Int64
abbrev SA : Type := Nat → Nat → Nat → Bool
abbrev ST : Type := SI × SJ × Nat × SA
def uI (I : SI) (t k j : Nat) (x : Int32) : SI := fun a b c => if a = t ∧ b = k ∧ c = j then x else I a b c
def uJ (J : SJ) (k j : Nat) (x : Int64) : SJ := fun b c => if b = k ∧ c = j then x else J b c
def uA (A : SA) (t k j : Nat) : SA := fun a b c => if a = t ∧ b = k ∧ c = j then true else A a b c
def zI (I : SI) (t k : Nat) : SI := fun a b c => if a = t ∧ b = k then 0 else I a b c
def zJ (J : SJ) (k : Nat) : SJ := fun b c => if b = k then 0 else J b c
def zA (A : SA) (t k : Nat) : SA := fun a b c => if a = t ∧ b = k then false else A a b c
def cI (I : SI) (t k t1 k1 sp dp n : Nat) : SI := fun a b c => if a = t1 ∧ b = k1 then va_cpy (I t k) (I t1 k1) sp dp n c else I a b c
/-- five rows of a line at once -/
def z5 (I : SI) (k : Nat) : SI := fun a b c => if a = 10 ∧ 5 * k ≤ b ∧ b < 5 * k + 5 then 0 else I a b c
def aT : SA := fun _ _ _ => true
def nthD {α : Type} : List α → Nat → α → α
  | [], _, d => d
  | a :: _, 0, _ => a
  | _ :: l, n + 1, d => nthD l n d
def alook {α : Type} : List (Nat × α) → Nat → Option α
  | [], _ => none
  | (i, a) :: l, n => match Nat.beq i n with
    | true => some a
    | false => alook l n
/-- what a tag is: 0 an object (of class number ..), 1 ints, 2 booleans, 3 longs, 4 books fixed, 5 books that change, 6 rows -/
def tinfo : List (Nat × Nat) := [(0, 0), (1, 1792), (1, 896), (0, 1), (1, 8), (1, 8), (1, 8), (0, 2), (0, 3), (6, 5), (1, 25), (1, 5), (1, 5), (1, 10), (3, 0), (1, 10), (0, 4), (1, 25), (0, 5), (5, 8), (0, 6), (0, 7), (1, 6), (1, 6), (1, 6), (0, 8), (1, 160), (4, 2), (2, 2), (0, 9),
  (1, 25), (1, 25), (1, 200), (1, 50), (2, 2), (1, 6), (1, 6), (1, 6), (1, 13), (1, 13), (1, 169), (1, 10), (1, 10), (1, 25), (1, 10), (1, 10), (1, 160), (1, 160), (1, 160), (1, 160), (1, 160)]
/-- a class's fields: 0 int, 1 boolean, 2 a reference to (tag, number by code: 0 the same, 1 twice and one, n + 2: n) -/
def ftab : List (List (Nat × Nat × Nat)) := [
  [(2, 1, 0), (2, 2, 0)],
  [(2, 4, 0), (2, 5, 0), (2, 6, 0), (0, 0, 0), (0, 0, 0)],
  [(2, 3, 3), (2, 0, 2), (2, 16, 2), (2, 16, 3), (2, 16, 4), (2, 8, 2), (2, 16, 5), (2, 8, 3), (1, 0, 0), (1, 0, 0)],
  [(2, 16, 1), (2, 9, 0), (2, 11, 0), (2, 12, 0), (2, 13, 0), (2, 14, 0), (0, 0, 0), (0, 0, 0), (1, 0, 0), (2, 15, 0)],
  [(2, 0, 2), (2, 17, 0), (0, 0, 0), (1, 0, 0)],
  [(2, 19, 0), (0, 0, 0)],
  [(2, 3, 2), (2, 26, 2), (0, 0, 0), (0, 0, 0), (0, 0, 0), (0, 0, 0), (0, 0, 0)],
  [(2, 22, 0), (2, 23, 0), (2, 24, 0), (0, 0, 0)],
  [(2, 26, 0), (0, 0, 0), (2, 20, 0), (2, 3, 3), (2, 18, 0), (2, 7, 0), (2, 21, 0), (2, 27, 0), (2, 28, 0)],
  [(2, 30, 0), (2, 31, 0), (2, 32, 0), (0, 0, 0), (2, 33, 0), (2, 34, 0), (0, 0, 0), (2, 35, 0), (2, 36, 0), (2, 37, 0), (0, 0, 0), (2, 38, 0), (2, 39, 0), (2, 40, 0), (2, 41, 0), (2, 42, 0), (2, 43, 0), (2, 44, 0), (1, 0, 0), (1, 0, 0), (2, 45, 0), (2, 46, 0), (0, 0, 0), (2, 47, 0), (2, 48, 0), (2, 49, 0), (2, 50, 0), (0, 0, 0), (0, 0, 0), (0, 0, 0)]]
/-- the order in which the law's objects are made -/
def allIds : List (Nat × Nat) := [(25, 0), (26, 0), (20, 0), (3, 0), (4, 0), (5, 0), (6, 0), (3, 1), (4, 1), (5, 1), (6, 1), (18, 0), (19, 0),
  (3, 2), (4, 2), (5, 2), (6, 2), (3, 3), (4, 3), (5, 3), (6, 3), (3, 4), (4, 4), (5, 4), (6, 4), (3, 5), (4, 5), (5, 5), (6, 5), (3, 6), (4, 6), (5, 6), (6, 6), (3, 7), (4, 7), (5, 7), (6, 7), (3, 8), (4, 8), (5, 8), (6, 8), (3, 9), (4, 9), (5, 9), (6, 9),
  (7, 0), (0, 0), (1, 0), (2, 0), (16, 0), (17, 0), (16, 1), (17, 1), (16, 2), (17, 2), (8, 0), (9, 0), (10, 0), (10, 1), (10, 2), (10, 3), (10, 4), (11, 0), (12, 0), (13, 0), (15, 0), (14, 0), (16, 3), (17, 3), (8, 1), (9, 1), (10, 5), (10, 6), (10, 7), (10, 8), (10, 9), (11, 1), (12, 1), (13, 1), (15, 1), (14, 1),
  (21, 0), (22, 0), (23, 0), (24, 0), (27, 0), (3, 10), (4, 10), (5, 10), (6, 10), (3, 11), (4, 11), (5, 11), (6, 11), (28, 0),
  (29, 0), (30, 0), (31, 0), (32, 0), (33, 0), (34, 0), (35, 0), (36, 0), (37, 0), (38, 0), (39, 0), (40, 0), (41, 0), (42, 0), (43, 0), (44, 0), (45, 0), (46, 0), (47, 0), (48, 0), (49, 0), (50, 0)]
abbrev NN : Nat := 117
theorem allIds_len : allIds.length = 117 := by decide +kernel
def off (t k : Nat) : Nat := allIds.idxOf (t, k)
theorem off_at : ∀ o, o < 117 → off (nthD allIds o (99, 0)).1 (nthD allIds o (99, 0)).2 = o := by decide +kernel
theorem nthD_get {α : Type} : ∀ (l : List α) (n : Nat) (d : α), n < l.length → l[n]? = some (nthD l n d)
  | [], n, d, h => by simp at h
  | a :: l, 0, d, _ => by simp [nthD]
  | a :: l, n + 1, d, h => by simpa [nthD] using nthD_get l n d (by simpa using h)
theorem nthD_none {α : Type} : ∀ (l : List α) (n : Nat) (d : α), l.length ≤ n → nthD l n d = d
  | [], _, _, _ => rfl
  | a :: l, 0, d, h => by simp at h
  | a :: l, n + 1, d, h => nthD_none l n d (by simpa using h)
/-- how long an array is -/
def tlen (t k : Nat) : Nat := match t with
  | 14 => (match k with | 0 => 300 | _ => 1)
  | _ => (nthD tinfo t (99, 0)).2
def szOf (q : Nat × Nat) : Nat := match nthD tinfo q.1 (99, 0) with
  | (0, ci) => (nthD ftab ci []).length
  | (_, _) => tlen q.1 q.2
def sz : Nat → Nat
  | 0 => 0
  | n + 1 => sz n + szOf (nthD allIds n (99, 0))
theorem sz_mono {a b : Nat} (h : a ≤ b) : sz a ≤ sz b := by
  induction h with
  | refl => exact Nat.le_refl _
  | step _ ih => exact Nat.le_trans ih (Nat.le_add_right _ _)
theorem sz_all : sz 117 ≤ 10000 := by decide +kernel
/-- static things: 60 .. 64 the tables, 65 the script, 66 the texts, 67 their bytes -/
def ctab : List (List Int32) := [[0, 0, 1, 0, 1, 2, 0, 1, 2, 3], [1, 2, 2, 3, 3, 3, 4, 4, 4, 4], [4, 3, 2, 1, 0, 0, 1, 2, 2, 1, 0, 0, 0], [4, 4, 4, 4, 4, 3, 3, 3, 2, 2, 2, 1, 0],
  [1, 1, 1, 1, 31, 31, 1, 1, 1, 1, 31, 31, 8191, 1, 1, 1, 2, 28, 28, 2, 1, 1, 2, 28, 224, 7936, 1, 1, 7, 4, 28, 28, 4, 7, 391, 388, 2044, 1792, 7936, 1, 1, 7, 8, 16, 16, 8, 7, 391, 584, 1072, 2048, 4096,
  1, 1, 31, 16, 16, 16, 16, 31, 8191, 7216, 7216, 4096, 4096, 1, 2, 28, 16, 16, 32, 32, 224, 7936, 7168, 7168, 4096, 4096, 1, 2, 4, 8, 16, 32, 64, 128, 256, 512, 1024, 2048, 4096, 1, 2, 4, 4, 28, 224, 128, 128, 256, 256, 1792, 1792, 7936,
  391, 388, 388, 388, 2044, 1792, 256, 256, 256, 256, 1792, 1792, 7936, 391, 388, 388, 584, 1072, 1024, 512, 256, 256, 512, 1024, 2048, 4096, 391, 388, 2044, 1072, 1072, 1024, 1024, 1792, 7936, 7168, 7168, 4096, 4096,
  391, 584, 1072, 1072, 1072, 2048, 2048, 2048, 4096, 4096, 4096, 4096, 4096, 8191, 7216, 7216, 7216, 7216, 4096, 4096, 4096, 4096, 4096, 4096, 4096, 4096]]
def clen : List Nat := [10, 10, 13, 13, 169]
/-- a text's letters -/
def stxt : List (List Int32) := [[101, 118, 101, 110, 116, 115], [98, 101, 102, 111, 114, 101], [99, 111, 118, 101, 114, 115], [99, 117, 116, 115], [111, 117, 116, 108, 97, 115, 116, 115], [119, 105, 116, 104, 105, 110], [119, 105, 116, 104], [116, 111, 117, 99, 104, 101, 115], [115, 97, 109, 101]]
def slen : List Nat := [6, 6, 6, 4, 8, 6, 4, 7, 4]
/-- a launch, the law's first address, addresses of static things, classes and slots, array classes, the script -/
abbrev EV : Type := Launch × Nat × (Nat → Nat → Nat) × va_G × (Nat → ClassId) × Nat × (Nat → Int32)
abbrev eL (E : EV) : Launch := E.1
abbrev eB (E : EV) : Nat := E.2.1
abbrev eS (E : EV) : Nat → Nat → Nat := E.2.2.1
abbrev eD (E : EV) : va_G := E.2.2.2.1
abbrev eC (E : EV) : Nat → ClassId := E.2.2.2.2.1
abbrev eN (E : EV) : Nat := E.2.2.2.2.2.1
abbrev eX (E : EV) : Nat → Int32 := E.2.2.2.2.2.2
/-- what the law's own cells are -/
abbrev eA (E : EV) : Nat → Prop := fun q => eB E ≤ q
def adr (E : EV) (t k : Nat) : Nat := if t < 60 then eB E + off t k else eS E t k
def conc (E : EV) : AV → Value
  | .inl x => .int x
  | .inr (.inl x) => .long x
  | .inr (.inr none) => .null
  | .inr (.inr (some (t, k))) => .ref (adr E t k)
def vld0 (n t k : Nat) : Prop := ∃ o, o < n ∧ n ≤ 117 ∧ nthD allIds o (99, 0) = (t, k)
def vldS (t k : Nat) : Prop := (60 ≤ t ∧ t ≤ 65 ∧ k = 0) ∨ (66 ≤ t ∧ t ≤ 68 ∧ k < 9)
def vld (n t k : Nat) : Prop := vld0 n t k ∨ vldS t k
def vok (n : Nat) : AV → Prop
  | .inr (.inr (some (t, k))) => vld n t k
  | _ => True
def rtg (c k : Nat) : Nat := match c with
  | 0 => k
  | 1 => 2 * k + 1
  | n + 2 => n
def fval (E : EV) (ci t k : Nat) (I : SI) (A : SA) (j : Nat) : Value := match nthD (nthD ftab ci []) j (0, 0, 0) with
  | (2, t1, c) => if A t k j = true then .ref (adr E t1 (rtg c k)) else .null
  | _ => .int (I t k j)
def cellE (E : EV) (t k : Nat) (I : SI) (J : SJ) (A : SA) : va_E := match nthD tinfo t (99, 0) with
  | (0, ci) => .inr (ci, (List.range (nthD ftab ci []).length).map (fval E ci t k I A))
  | (1, n) => .inl (eC E 0, n, .inl (I t k))
  | (2, n) => .inl (eC E 1, n, .inl (I t k))
  | (3, _) => .inl (eC E 2, tlen t k, .inr (.inl (J k)))
  | (4, n) => .inl (eC E 3, n, .inr (.inr (.inr (.inr (fun j => if A t k j = true then some (adr E 3 (10 + j)) else none)))))
  | (5, n) => .inl (eC E 3, n, .inr (.inr (.inr (.inr (fun j => if A t k j = true then some (adr E 3 (I t k j).toNatClampNeg) else none)))))
  | (6, n) => .inl (eC E 4, n, .inr (.inr (.inr (.inr (fun j => if j < n then some (adr E 10 (5 * k + j)) else none)))))
  | _ => .inl (eC E 0, 0, .inl (fun _ => 0))
def cellAt (E : EV) (o : Nat) (I : SI) (J : SJ) (A : SA) : va_E := cellE E (nthD allIds o (99, 0)).1 (nthD allIds o (99, 0)).2 I J A
def wsO (E : EV) : ST → va_W
  | (I, J, n, A) => (List.range n).map (fun o => (eB E + o, cellAt E o I J A))
def Rep (E : EV) (H : Heap) : ST → Prop
  | (I, J, n, A) => va_P (eD E) vwCl (wsO E (I, J, n, A)) H ∧ (n < 117 → H.size = eB E + n) ∧ n ≤ 117
theorem wsO_get {E : EV} {I : SI} {J : SJ} {n : Nat} {A : SA} {o : Nat} (h : o < n) : (wsO E (I, J, n, A))[o]? = some (eB E + o, cellAt E o I J A) := by
  simp [wsO, h]
theorem wsO_len {E : EV} {I : SI} {J : SJ} {n : Nat} {A : SA} : (wsO E (I, J, n, A)).length = n := by simp [wsO]
theorem wsO_D {E : EV} {I : SI} {J : SJ} {n : Nat} {A : SA} : va_D (eA E) (wsO E (I, J, n, A)) := by
  have key : ∀ (i : Nat) (q : Nat × va_E), (wsO E (I, J, n, A))[i]? = some q → q.1 = eB E + i := by
    intro i q h
    have hi : i < n := by
      have := (List.getElem?_eq_some_iff.mp h).1
      rwa [wsO_len] at this
    rw [wsO_get hi] at h
    cases h
    rfl
  refine ⟨fun i j x y hi hj hxy => ?_, fun k q h => ?_⟩
  · have h1 := key i x hi
    have h2 := key j y hj
    omega
  · have h1 := key k q h
    show eB E ≤ q.1
    omega
/-- the place of a thing -/
theorem vld0_at {n t k : Nat} (h : vld0 n t k) : off t k < n ∧ nthD allIds (off t k) (99, 0) = (t, k) ∧ t < 60 := by
  obtain ⟨o, h1, h2, h3⟩ := h
  have h4 := off_at o (by omega)
  rw [h3] at h4
  have h5 : ∀ o, o < 117 → (nthD allIds o (99, 0)).1 < 60 := by decide +kernel
  have h6 := h5 o (by omega)
  rw [h3] at h6
  refine ⟨by rw [h4]; exact h1, by rw [h4]; exact h3, h6⟩
theorem Rep_at {E : EV} {H : Heap} {I : SI} {J : SJ} {n : Nat} {A : SA} {t k : Nat} (hv : vld0 n t k) : (wsO E (I, J, n, A))[off t k]? = some (adr E t k, cellE E t k I J A) := by
  obtain ⟨h1, h2, h3⟩ := vld0_at hv
  rw [wsO_get h1]
  simp only [adr, h3, if_true, cellAt, h2]
/-- another store at one place -/
theorem wsO_set {E : EV} {I I1 : SI} {J J1 : SJ} {n : Nat} {A A1 : SA} {t k : Nat} (hv : vld0 n t k) (hne : ∀ a b, (a, b) ≠ (t, k) → cellE E a b I1 J1 A1 = cellE E a b I J A) :
    (wsO E (I, J, n, A)).set (off t k) (adr E t k, cellE E t k I1 J1 A1) = wsO E (I1, J1, n, A1) := by
  obtain ⟨h1, h2, h3⟩ := vld0_at hv
  apply List.ext_getElem?
  intro i
  by_cases hi : i = off t k
  · subst hi
    rw [List.getElem?_set_self (by rw [wsO_len]; exact h1), Rep_at (H := #[]) hv]
  · rw [List.getElem?_set_ne (Ne.symm hi)]
    by_cases hn : i < n
    · rw [wsO_get hn, wsO_get hn]
      obtain ⟨-, -, h117, -⟩ := hv
      have h4 := off_at i (by omega)
      unfold cellAt
      rw [hne]
      intro hq
      have e1 : (nthD allIds i (99, 0)).1 = t := congrArg Prod.fst hq
      have e2 : (nthD allIds i (99, 0)).2 = k := congrArg Prod.snd hq
      rw [e1, e2] at h4
      exact hi h4.symm
    · rw [List.getElem?_eq_none (by rw [wsO_len]; omega), List.getElem?_eq_none (by rw [wsO_len]; omega)]
