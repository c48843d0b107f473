/-! NUMBERS for the contracts -/
theorem lit (n : Nat) : (OfNat.ofNat n : Int32) = nI n := rfl
def bi (b : Bool) : Int32 := match b with
  | true => 1
  | false => 0
theorem bi_01 (b : Bool) : bi b = 0 ∨ bi b = 1 := by cases b <;> simp [bi]
theorem bi_t {b : Bool} (h : bi b ≠ 0) : b = true := by cases b <;> simp_all [bi]
theorem bi_f {b : Bool} (h : bi b = 0) : b = false := by cases b <;> simp_all [bi]
/-- a number of a row of n -/
def isIn (x : Int32) (n : Nat) : Bool := decide (0 ≤ x ∧ x < nI n)
theorem isIn_of {x : Int32} {n : Nat} (h : isIn x n = true) (hn : n < 2 ^ 31) : ∃ j, j < n ∧ x = nI j := by
  simp only [isIn, decide_eq_true_eq] at h
  obtain ⟨j, h1, h2⟩ := nI_of (x := x) (by rw [Int32.not_lt]; exact h.1)
  subst h2
  exact ⟨j, (nI_ltI h1 hn).mp h.2, rfl⟩
theorem isIn_nI {j n : Nat} (h : j < n) (hn : n < 2 ^ 31) : isIn (nI j) n = true := by
  simp only [isIn, decide_eq_true_eq]
  exact ⟨nI_pos' (by omega), nI_lt h hn⟩
theorem isIn_f1 {x : Int32} {n : Nat} (h : x < 0) : isIn x n = false := by
  simp only [isIn, decide_eq_false_iff_not, not_and]
  intro h1
  exact absurd h (by rw [Int32.not_lt]; exact h1)
theorem isIn_f2 {x : Int32} {n : Nat} (h : nI n ≤ x) : isIn x n = false := by
  simp only [isIn, decide_eq_false_iff_not, not_and]
  intro _
  rw [Int32.not_lt]
  exact h
theorem isIn_t {x : Int32} {n : Nat} (h1 : ¬ x < 0) (h2 : ¬ nI n ≤ x) : isIn x n = true := by
  simp only [isIn, decide_eq_true_eq]
  exact ⟨Int32.not_lt.mp h1, Int32.not_le.mp h2⟩
theorem uI_at {I : SI} {t k j : Nat} {x : Int32} : uI I t k j x t k j = x := by simp [uI]
theorem uI_t {I : SI} {t k j a b c : Nat} {x : Int32} (h : a ≠ t) : uI I t k j x a b c = I a b c := by simp [uI, h]
theorem uI_tt {I : SI} {t k j a b : Nat} {x : Int32} (h : a ≠ t) : uI I t k j x a b = I a b := uI_ne (fun q => h (congrArg Prod.fst q))
theorem uI_kk {I : SI} {t k j a b : Nat} {x : Int32} (h : b ≠ k) : uI I t k j x a b = I a b := uI_ne (fun q => h (congrArg Prod.snd q))
theorem uI_k {I : SI} {t k j a b c : Nat} {x : Int32} (h : b ≠ k) : uI I t k j x a b c = I a b c := by simp [uI, h]
theorem uI_j {I : SI} {t k j a b c : Nat} {x : Int32} (h : c ≠ j) : uI I t k j x a b c = I a b c := by simp [uI, h]
abbrev S0 (I : SI) (J : SJ) : ST := (I, J, 117, aT)
/-! books: an observation is (x, set, y) -/
abbrev Ob : Type := Nat × Nat × Nat
def BK (I : SI) (b ev : Nat) (L : List Ob) : Prop := I 3 b 4 = nI ev ∧ I 3 b 3 = nI L.length ∧ L.length ≤ 8 ∧ 2 ≤ ev ∧ ev ≤ 5 ∧ ∀ j, j < L.length → I 4 b j = nI (nthD L j (0, 0, 0)).1 ∧ I 5 b j = nI (nthD L j (0, 0, 0)).2.1 ∧ I 6 b j = nI (nthD L j (0, 0, 0)).2.2
/-- nothing but the book b has changed -/
def frB (b : Nat) (I I1 : SI) : Prop := ∀ t k, ¬ (3 ≤ t ∧ t ≤ 6 ∧ k = b) → I1 t k = I t k
theorem BK.fr {I I1 : SI} {b o ev : Nat} {L : List Ob} (h : BK I o ev L) (hf : frB b I I1) (hne : o ≠ b) : BK I1 o ev L := by
  unfold BK at h ⊢
  rw [hf 3 o (by omega), hf 4 o (by omega), hf 5 o (by omega), hf 6 o (by omega)]
  exact h
theorem frB.trans {I I1 I2 : SI} {b : Nat} (h : frB b I I1) (h1 : frB b I1 I2) : frB b I I2 := fun t k hk => (h1 t k hk).trans (h t k hk)
theorem frB.refl {I : SI} {b : Nat} : frB b I I := fun _ _ _ => rfl
theorem frB.u {I I1 : SI} {b t j : Nat} {x : Int32} (h : frB b I I1) (h1 : 3 ≤ t) (h2 : t ≤ 6) : frB b I (uI I1 t b j x) := fun a k hk => by
  rw [uI_ne (fun q => hk (by cases q; exact ⟨h1, h2, rfl⟩))]
  exact h a k hk
