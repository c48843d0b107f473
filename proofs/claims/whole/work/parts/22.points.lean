/-! The line: relations and points -/
def relH (l : HS) (x y : Nat) : Nat := if x < y then l (PRb x y) else 12 - l (PRb y x)
theorem pr0_lt : ∀ ev, ev < 6 → ∀ y, y < ev → ∀ x, x < y → PRb x y < PRb 0 ev := by decide +kernel
theorem and15 (n : Nat) : nI n &&& 15 = nI (n % 16) := by
  rw [pk_and (nI n) 4 (by decide)]
  show nI (n % 2 ^ 32 % 16) = _
  rw [Nat.mod_mod_of_dvd _ (by decide)]
theorem relH_lt {l : HS} {x y : Nat} (h : x < y → l (PRb x y) < 13) : relH l x y < 13 := by
  unfold relH
  split
  · exact h (by assumption)
  · omega
set_option maxRecDepth 10000 in
theorem c_relation (I : SI) (J : SJ) (m ev k x y : Nat) (H : List HS) (h : LST I J m ev H) (h5 : ev ≤ 5) (hk : k < H.length) (hx : x < ev) (hy : y < ev) (hxy : x ≠ y) (d : Nat) (hd : 0 < d) : Tri d YX3_relation 117 [vr 8 m, vi (nI k), vi (nI x), vi (nI y)] (S0 I J) (fun r σ => σ = S0 I J ∧ r = some (vi (nI (relH (nthD H k h00) x y)))) := by
  refine Tri.of (M := MX3_relation) k_X3_relation ⟨Nat.le_refl _, Nat.le_refl _⟩ (Nat.le_of_ble_eq_true rfl) ?_
  obtain ⟨g1, g2, g3, g4⟩ := h
  obtain ⟨q1, q2⟩ := g3 k hk
  have t300 := tlen_14 m
  have p10 := PRb0_le ev (by omega)
  have em := mm_tab x (by omega) y (by omega)
  have hpl : PRb (min x y) (max x y) < PRb 0 ev := pr0_lt ev (by omega) _ (by omega) _ (by omega)
  have key : ((J m (nI k).toNatClampNeg >>> ((4 * nI (PRb (min x y) (max x y)) : Int32).toInt64 &&& 63)).toInt32) &&& 15 = nI (nthD H k h00 (PRb (min x y) (max x y))) := by
    have el := encN_lt (l := nthD H k h00) (p := PRb 0 ev) (fun q hq => by have := q2 q hq; omega)
    have e16 : ∀ p, 2 ^ (4 * p) = 16 ^ p := fun p => by rw [Nat.pow_mul]
    have el2 : encN (nthD H k h00) (PRb 0 ev) < 2 ^ 63 := Nat.lt_of_lt_of_le el (by rw [← e16]; exact Nat.pow_le_pow_right (by decide) (by omega))
    rw [nI_clamp (by omega), q1, show (4 : Int32) = nI 4 from rfl, pk_mul, nI_l (by omega), lx_shr el2 (by omega), lN_i, and15, e16, encN_dec (fun q hq => by have := q2 q hq; omega) hpl]
  have hl13 := q2 _ hpl
  refine Sat.of k_X3_relation [] 60 ?_
  refine ⟨fun c => absurd (show nI 0 ≤ nI k from nI_le (by omega) (by omega)) (by rw [Int32.not_le]; exact c), fun c => ⟨fun c1 => ?_, fun c1 => ?_⟩⟩
  · refine ⟨?_, hd, hd, 0, 117, hd, Nat.le_refl _, (c_pairOf I J (min x y) (max x y) (by omega) (by omega) 0).to ?_ rfl ?_⟩
    · exact vp_in_nI (by omega) (by omega)
    · show [vi (if nI y < nI x then nI y else nI x), vi (if nI x < nI y then nI y else nI x)] = _
      rw [em.1, em.2]
    · rintro r σ ⟨rfl, rfl⟩
      refine ⟨fun c2 => ⟨rfl, trivial, rfl, ?_⟩, fun c2 => ⟨rfl, trivial, rfl, ?_⟩⟩
      · have c2 : nI y ≤ nI x := c2
        rw [nI_leI (by omega) (by omega)] at c2
        show some (vi ((12 : Int32) - ((J m (nI k).toNatClampNeg >>> ((4 * nI (PRb (min x y) (max x y)) : Int32).toInt64 &&& 63)).toInt32 &&& 15))) = _
        rw [key, show (12 : Int32) = nI 12 from rfl, pk_sub (by omega)]
        unfold relH
        rw [if_neg (by omega), Nat.min_eq_right (by omega), Nat.max_eq_left (by omega)]
      · have c2 : ¬ nI y ≤ nI x := c2
        rw [nI_leI (by omega) (by omega)] at c2
        show some (vi ((J m (nI k).toNatClampNeg >>> ((4 * nI (PRb (min x y) (max x y)) : Int32).toInt64 &&& 63)).toInt32 &&& 15)) = _
        rw [key]
        unfold relH
        rw [if_pos (by omega), Nat.min_eq_left (by omega), Nat.max_eq_right (by omega)]
  · have c1 : ¬ nI k < I 8 m 6 := c1
    rw [g1] at c1
    exact absurd (nI_lt hk (by omega)) c1
set_option maxRecDepth 10000 in
theorem c_lineDrop (I : SI) (J : SJ) (m : Nat) (d : Nat) : Tri d YX3_dropAll 117 [vr 8 m] (S0 I J) (fun r σ => r = none ∧ σ = S0 (uI (uI I 8 m 6 0) 8 m 8 0) J) := by
  refine Tri.of (M := MX3_dropAll) k_X3_dropAll ⟨Nat.le_refl _, Nat.le_refl _⟩ (Nat.le_of_ble_eq_true rfl) ?_
  refine Sat.of k_X3_dropAll [] 60 ?_
  exact ⟨Or.inl rfl, rfl, rfl, rfl, rfl⟩
/-! counting points -/
def tmv (B E : Nat → Nat) (i : Nat) : Nat := if i % 2 = 0 then B (i / 2) else E (i / 2)
def allN : Nat → (Nat → Bool) → Bool
  | 0, _ => true
  | n + 1, f => allN n f && f n
theorem allN_t {f : Nat → Bool} : ∀ {n : Nat}, allN n f = true ↔ ∀ i, i < n → f i = true
  | 0 => ⟨fun _ i hi => absurd hi (by omega), fun _ => rfl⟩
  | n + 1 => by
    simp only [allN, Bool.and_eq_true]
    rw [allN_t]
    constructor
    · rintro ⟨h1, h2⟩ i hi
      by_cases e : i = n
      · rw [e]; exact h2
      · exact h1 i (by omega)
    · intro h
      exact ⟨fun i hi => h i (by omega), h n (by omega)⟩
def cntN : Nat → (Nat → Bool) → Nat
  | 0, _ => 0
  | n + 1, f => cntN n f + b2n (f n)
theorem cntN_le {f : Nat → Bool} : ∀ {n : Nat}, cntN n f ≤ n
  | 0 => Nat.le_refl _
  | n + 1 => by
    have := cntN_le (f := f) (n := n)
    simp only [cntN]
    cases f n <;> simp only [b2n] <;> omega
/-- the times of the line's first history -/
def TMI (I : SI) (m ev : Nat) (B E : Nat → Nat) : Prop := ∀ x, x < ev → I 15 m (2 * x) = nI (B x) ∧ I 15 m (2 * x + 1) = nI (E x) ∧ B x ≤ 243 ∧ E x ≤ 243
theorem TMI.at {I : SI} {m ev i : Nat} {B E : Nat → Nat} (h : TMI I m ev B E) (hi : i < 2 * ev) : I 15 m i = nI (tmv B E i) ∧ tmv B E i ≤ 243 := by
  obtain ⟨h1, h2, h3, h4⟩ := h (i / 2) (by omega)
  unfold tmv
  by_cases e : i % 2 = 0
  · rw [if_pos e]
    rw [show 2 * (i / 2) = i by omega] at h1
    exact ⟨h1, h3⟩
  · rw [if_neg e]
    rw [show 2 * (i / 2) + 1 = i by omega] at h2
    exact ⟨h2, h4⟩
def fstT (B E : Nat → Nat) (i : Nat) : Bool := allN i (fun j => !decide (tmv B E j = tmv B E i))
set_option maxRecDepth 10000 in
theorem c_isFirst (I : SI) (J : SJ) (m ev i : Nat) (B E : Nat → Nat) (h : TMI I m ev B E) (h5 : ev ≤ 5) (hi : i < 2 * ev) (d : Nat) : Tri d YX3_isFirstAtItsTime 117 [vr 8 m, vi (nI i)] (S0 I J) (fun r σ => σ = S0 I J ∧ r = some (vi (bi (fstT B E i)))) := by
  refine Tri.of (M := MX3_isFirstAtItsTime) k_X3_isFirstAtItsTime ⟨Nat.le_refl _, Nat.le_refl _⟩ (Nat.le_of_ble_eq_true rfl) ?_
  obtain ⟨hi1, hi2⟩ := h.at hi
  have loop : ∀ (n j : Nat), j + n = i → allN j (fun j => !decide (tmv B E j = tmv B E i)) = true → Sat none MX3_isFirstAtItsTime d 117 (fun r σ => σ = S0 I J ∧ r = some (vi (bi (fstT B E i)))) 2 [some (vr 8 m), some (vi (nI i)), some (vi (nI j))] [] (S0 I J) := by
    intro n
    induction n with
    | zero =>
      intro j hj ha
      have e : j = i := by omega
      subst e
      refine Sat.of k_X3_isFirstAtItsTime [2] 60 ?_
      refine ⟨fun c => ⟨rfl, Or.inr rfl, rfl, ?_⟩, fun c => absurd (nI_le (a := j) (b := j) (Nat.le_refl _) (by omega)) c⟩
      unfold fstT
      rw [ha]
      rfl
    | succ n ih =>
      intro j hj ha
      obtain ⟨hj1, hj2⟩ := h.at (i := j) (by omega)
      have ej : (nI j).toNatClampNeg = j := nI_clamp (by omega)
      have ei : (nI i).toNatClampNeg = i := nI_clamp (by omega)
      refine Sat.of k_X3_isFirstAtItsTime [2] 60 ?_
      refine ⟨fun c => absurd ((nI_leI (a := i) (by omega) (by omega)).mp c) (by omega), fun c => ⟨vp_in_nI (by omega) (by decide), vp_in_nI (by omega) (by decide), fun c1 => ?_, fun c1 => ⟨rfl, Or.inl rfl, rfl, ?_⟩⟩⟩
      · have c1 : ¬ I 15 m (nI j).toNatClampNeg = I 15 m (nI i).toNatClampNeg := c1
        rw [ej, ei, hj1, hi1] at c1
        have hne : tmv B E j ≠ tmv B E i := fun e => c1 (by rw [e])
        refine (ih (j + 1) (by omega) ?_).to (by rw [← nI_1]; rfl) rfl
        simp only [allN, ha, Bool.true_and]
        rw [decide_eq_false hne]
        rfl
      · have c1 : I 15 m (nI j).toNatClampNeg = I 15 m (nI i).toNatClampNeg := c1
        rw [ej, ei, hj1, hi1] at c1
        have he : tmv B E j = tmv B E i := (nI_eq (by omega) (by omega)).mp c1
        have : fstT B E i = false := by
          rw [← Bool.not_eq_true]
          unfold fstT
          rw [allN_t]
          intro q
          have := q j (by omega)
          rw [decide_eq_true he] at this
          cases this
        rw [this]
        rfl
  refine Sat.of k_X3_isFirstAtItsTime [2] 60 ?_
  exact loop i 0 (by omega) rfl
def ptsA (ev : Nat) (B E : Nat → Nat) (t : Nat) : Nat := cntN (2 * ev) (fun i => decide (tmv B E i < t) && fstT B E i)
set_option maxRecDepth 10000 in
theorem c_pointsAhead (I : SI) (J : SJ) (m ev t : Nat) (B E : Nat → Nat) (h : TMI I m ev B E) (he : I 16 (2 * m + 1) 2 = nI ev) (h5 : ev ≤ 5) (ht : t ≤ 243) (d : Nat) (hd : 0 < d) : Tri d YX3_pointsAhead 117 [vr 8 m, vi (nI t)] (S0 I J) (fun r σ => σ = S0 I J ∧ r = some (vi (nI (ptsA ev B E t)))) := by
  refine Tri.of (M := MX3_pointsAhead) k_X3_pointsAhead ⟨Nat.le_refl _, Nat.le_refl _⟩ (Nat.le_of_ble_eq_true rfl) ?_
  have e2 : (2 * I 16 (2 * m + 1) 2 : Int32) = nI (2 * ev) := by rw [he]; exact pk_mul 2 ev
  have loop : ∀ (n i : Nat), i + n = 2 * ev → Sat none MX3_pointsAhead d 117 (fun r σ => σ = S0 I J ∧ r = some (vi (nI (ptsA ev B E t)))) 4 [some (vr 8 m), some (vi (nI t)), some (vi (nI (cntN i (fun i => decide (tmv B E i < t) && fstT B E i)))), some (vi (nI i))] [] (S0 I J) := by
    intro n
    induction n with
    | zero =>
      intro i hi
      have e : i = 2 * ev := by omega
      subst e
      refine Sat.of k_X3_pointsAhead [4] 60 ?_
      refine ⟨fun c => ⟨rfl, trivial, rfl, rfl⟩, fun c => ?_⟩
      have c : ¬ (2 * I 16 (2 * m + 1) 2 : Int32) ≤ nI (2 * ev) := c
      rw [e2] at c
      exact absurd (nI_le (a := 2 * ev) (b := 2 * ev) (Nat.le_refl _) (by omega)) c
    | succ n ih =>
      intro i hi
      obtain ⟨hi1, hi2⟩ := h.at (i := i) (by omega)
      have ei : (nI i).toNatClampNeg = i := nI_clamp (by omega)
      refine Sat.of k_X3_pointsAhead [4] 60 ?_
      refine ⟨fun c => ?_, fun c => ⟨vp_in_nI (by omega) (by decide), fun c1 => ?_, fun c1 => ⟨0, 117, hd, Nat.le_refl _, (c_isFirst I J m ev i B E h h5 (by omega) 0).mono ?_⟩⟩⟩
      · have c : (2 * I 16 (2 * m + 1) 2 : Int32) ≤ nI i := c
        rw [e2] at c
        exact absurd ((nI_leI (by omega) (by omega)).mp c) (by omega)
      · have c1 : nI t ≤ I 15 m (nI i).toNatClampNeg := c1
        rw [ei, hi1] at c1
        have q := (nI_leI (by omega) (by omega)).mp c1
        refine (ih (i + 1) (by omega)).to ?_ rfl
        simp only [cntN]
        rw [decide_eq_false (by omega), ← nI_1]
        rfl
      · rintro r σ ⟨rfl, rfl⟩
        have c1 : ¬ nI t ≤ I 15 m (nI i).toNatClampNeg := c1
        rw [ei, hi1] at c1
        rw [nI_leI (by omega) (by omega)] at c1
        refine ⟨fun c2 => ?_, fun c2 => ?_⟩
        · have e := bi_f c2
          refine (ih (i + 1) (by omega)).to ?_ rfl
          simp only [cntN]
          rw [e, Bool.and_false, ← nI_1]
          rfl
        · have e := bi_t c2
          refine (ih (i + 1) (by omega)).to ?_ rfl
          simp only [cntN]
          rw [e, decide_eq_true (by omega), ← nI_1]
          simp only [Bool.and_self, b2n]
          rw [← nI_1]
          rfl
  refine Sat.of k_X3_pointsAhead [4] 60 ?_
  exact loop (2 * ev) 0 (by omega)
set_option maxRecDepth 10000 in
theorem c_allPoints (I : SI) (J : SJ) (m ev : Nat) (B E : Nat → Nat) (h : TMI I m ev B E) (he : I 16 (2 * m + 1) 2 = nI ev) (h5 : ev ≤ 5) (d : Nat) (hd : 1 < d) : Tri d YX3_allPoints 117 [vr 8 m] (S0 I J) (fun r σ => σ = S0 I J ∧ r = some (vi (nI (ptsA ev B E 243)))) := by
  refine Tri.of (M := MX3_allPoints) k_X3_allPoints ⟨Nat.le_refl _, Nat.le_refl _⟩ (Nat.le_of_ble_eq_true rfl) ?_
  refine Sat.of k_X3_allPoints [] 60 ?_
  refine ⟨1, 117, hd, Nat.le_refl _, (c_pointsAhead I J m ev 243 B E h he h5 (by decide) 1 (by decide)).mono ?_⟩
  rintro r σ ⟨rfl, rfl⟩
  exact ⟨rfl, trivial, rfl, rfl⟩
set_option maxRecDepth 10000 in
theorem c_pointOf (I : SI) (J : SJ) (m ev x e : Nat) (B E : Nat → Nat) (h : TMI I m ev B E) (he : I 16 (2 * m + 1) 2 = nI ev) (h5 : ev ≤ 5) (hx : x < ev) (hend : e < 2) (d : Nat) (hd : 1 < d) : Tri d YX3_pointOf 117 [vr 8 m, vi (nI x), vi (nI e)] (S0 I J) (fun r σ => σ = S0 I J ∧ r = some (vi (nI (ptsA ev B E (tmv B E (2 * x + e)))))) := by
  refine Tri.of (M := MX3_pointOf) k_X3_pointOf ⟨Nat.le_refl _, Nat.le_refl _⟩ (Nat.le_of_ble_eq_true rfl) ?_
  have e2 : (2 * nI x + nI e : Int32) = nI (2 * x + e) := by rw [show (2 : Int32) = nI 2 from rfl, pk_mul, nI_add]
  obtain ⟨hi1, hi2⟩ := h.at (i := 2 * x + e) (by omega)
  refine Sat.of k_X3_pointOf [] 60 ?_
  refine ⟨?_, 1, 117, hd, Nat.le_refl _, (c_pointsAhead I J m ev (tmv B E (2 * x + e)) B E h he h5 hi2 1 (by decide)).to ?_ rfl ?_⟩
  · show vp_in (2 * nI x + nI e : Int32) 10
    rw [e2]
    exact vp_in_nI (by omega) (by decide)
  · show [vr 8 m, vi (I 15 m (2 * nI x + nI e : Int32).toNatClampNeg)] = _
    rw [e2, nI_clamp (by omega), hi1]
  · rintro r σ ⟨rfl, rfl⟩
    exact ⟨rfl, trivial, rfl, rfl⟩
