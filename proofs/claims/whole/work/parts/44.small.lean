/-! bits, and what is a relation, a set -/
def ush (x : Int32) (k : Int32) : Int32 := (x.toUInt32 >>> (k.toUInt32 &&& Int32.toUInt32 31)).toInt32
def bcA (x : Int32) : Int32 := x - (ush x 1 &&& 1431655765)
def bcB (x : Int32) : Int32 := (x &&& 858993459) + (ush x 2 &&& 858993459)
def bcC (x : Int32) : Int32 := (x + ush x 4) &&& 252645135
def bcD (x : Int32) : Int32 := x + ush x 8
def bcE (x : Int32) : Int32 := x + ush x 16
def bcI (x : Int32) : Int32 := bcE (bcD (bcC (bcB (bcA x)))) &&& 63
def popB (a : Nat) : Bool := decide (bcI (nI a) = nI (pop a))
def allP : Nat → Nat → Bool
  | 0, _ => true
  | n + 1, k => popB k && allP n (k + 1)
theorem allP_t : ∀ {n k : Nat}, allP n k = true → ∀ a, k ≤ a → a < k + n → popB a = true
  | 0, _, _, a, h1, h2 => absurd h1 (by omega)
  | n + 1, k, h, a, h1, h2 => by
    simp only [allP, Bool.and_eq_true] at h
    by_cases e : a = k
    · rw [e]; exact h.1
    · exact allP_t h.2 a (by omega) (by omega)
theorem isRel_t (I : SI) (J : SJ) (x : Int32) (d : Nat) : Tri d YX8_isRelation 117 [vi x] (S0 I J) (fun r σ => σ = S0 I J ∧ r = some (vi (bi (isIn x 13)))) := by
  refine Tri.of (M := MX8_isRelation) k_X8_isRelation ⟨Nat.le_refl _, Nat.le_refl _⟩ (Nat.le_of_ble_eq_true rfl) ?_
  refine Sat.of k_X8_isRelation [] 60 ?_
  refine ⟨fun c => ⟨rfl, Or.inl rfl, rfl, ?_⟩, fun c => ⟨fun c1 => ⟨rfl, Or.inl rfl, rfl, ?_⟩, fun c1 => ⟨rfl, Or.inr rfl, rfl, ?_⟩⟩⟩
  · rw [isIn_f1 c]
    rfl
  · rw [isIn_f2 (n := 13) c1]
    rfl
  · rw [isIn_t (n := 13) c c1]
    rfl
theorem isSet_t (I : SI) (J : SJ) (x : Int32) (d : Nat) : Tri d YX8_isSet 117 [vi x] (S0 I J) (fun r σ => σ = S0 I J ∧ r = some (vi (bi (isIn x 8192)))) := by
  refine Tri.of (M := MX8_isSet) k_X8_isSet ⟨Nat.le_refl _, Nat.le_refl _⟩ (Nat.le_of_ble_eq_true rfl) ?_
  refine Sat.of k_X8_isSet [] 60 ?_
  have key : ¬ x < 0 → (8191 < x ↔ nI 8192 ≤ x) := fun h => by
    obtain ⟨j, j1, rfl⟩ := nI_of h
    rw [show (8191 : Int32) = nI 8191 from rfl, nI_ltI (by decide) j1, nI_leI (by decide) j1]
    omega
  refine ⟨fun c => ⟨rfl, Or.inl rfl, rfl, ?_⟩, fun c => ⟨fun c1 => ⟨rfl, Or.inl rfl, rfl, ?_⟩, fun c1 => ⟨rfl, Or.inr rfl, rfl, ?_⟩⟩⟩
  · rw [isIn_f1 c]
    rfl
  · rw [isIn_f2 (n := 8192) ((key c).mp c1)]
    rfl
  · rw [isIn_t (n := 8192) c (fun q => c1 ((key c).mpr q))]
    rfl
/-- a set that may be told -/
def isTld (x : Int32) : Bool := isIn x 8192 && !decide (x = 0)
theorem isTld_t (I : SI) (J : SJ) (x : Int32) (d : Nat) : Tri d YX8_isToldSet 117 [vi x] (S0 I J) (fun r σ => σ = S0 I J ∧ r = some (vi (bi (isTld x)))) := by
  by_cases h : x < 0
  · refine Tri.of (M := MX8_isToldSet) k_X8_isToldSet ⟨Nat.le_refl _, Nat.le_refl _⟩ (Nat.le_of_ble_eq_true rfl) ?_
    refine Sat.of k_X8_isToldSet [] 60 ?_
    have h1 : x < 1 := Int32.lt_of_lt_of_le h (by decide)
    have e : isTld x = false := by unfold isTld; rw [isIn_f1 h, Bool.false_and]
    rw [e]
    exact ⟨fun c => ⟨rfl, Or.inl rfl, rfl, rfl⟩, fun c => absurd h1 c⟩
  · obtain ⟨j, j1, rfl⟩ := nI_of h
    refine (told_t j1 I J d).mono ?_
    rintro r σ ⟨rfl, rfl⟩
    refine ⟨rfl, ?_⟩
    have e : isTld (nI j) = decide (1 ≤ j ∧ j ≤ 8191) := by
      unfold isTld
      by_cases q : j < 8192
      · rw [isIn_nI q (by decide), Bool.true_and]
        by_cases q1 : j = 0
        · subst q1; rfl
        · have q2 : ¬ nI j = 0 := fun e => q1 ((nI_eq (b := 0) j1 (by decide)).mp e)
          rw [decide_eq_false q2, decide_eq_true (show 1 ≤ j ∧ j ≤ 8191 by omega)]
          rfl
      · rw [isIn_f2 (n := 8192) (nI_le (by omega) j1), Bool.false_and, decide_eq_false (show ¬ (1 ≤ j ∧ j ≤ 8191) by omega)]
    rw [e]
theorem pop_a : allP 2048 0 = true := by decide +kernel
theorem pop_b : allP 2048 2048 = true := by decide +kernel
theorem pop_c : allP 2048 4096 = true := by decide +kernel
theorem pop_d : allP 2048 6144 = true := by decide +kernel
theorem pop_I {a : Nat} (h : a < 8192) : bcI (nI a) = nI (pop a) := by
  have : popB a = true := by
    by_cases h1 : a < 2048
    · exact allP_t pop_a a (by omega) (by omega)
    by_cases h2 : a < 4096
    · exact allP_t pop_b a (by omega) (by omega)
    by_cases h3 : a < 6144
    · exact allP_t pop_c a (by omega) (by omega)
    · exact allP_t pop_d a (by omega) (by omega)
  exact of_decide_eq_true this
set_option maxRecDepth 10000 in
theorem c_bitCount (I : SI) (J : SJ) (a : Nat) (h : a < 8192) (d : Nat) : Tri d YJ6_bitCount_0f7a4 117 [vi (nI a)] (S0 I J) (fun r σ => σ = S0 I J ∧ r = some (vi (nI (pop a)))) := by
  refine Tri.of (M := MJ6_bitCount_0f7a4) k_J6_bitCount_0f7a4 ⟨Nat.le_refl _, Nat.le_refl _⟩ (Nat.le_of_ble_eq_true rfl) ?_
  refine Sat.of k_J6_bitCount_0f7a4 [] 60 ?_
  refine ⟨rfl, trivial, rfl, ?_⟩
  show some (vi (bcI (nI a))) = _
  rw [pop_I h]
