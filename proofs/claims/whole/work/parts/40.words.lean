/-! The reader: what a token says -/
def isW (t : Nat → Nat) (n w p e : Nat) : Bool := decide (kAt t n p = 1) && decide (e - p = nthD slen w 0) && allN (nthD slen w 0) (fun i => decide (t (p + i) = chr w i))
/-- the reader stands behind the token from p to e -/
def TKS (I : SI) (n : Nat) (t : Nat → Nat) (p e : Nat) : Prop := TS I p e (kAt t n p) (vlN t p (e - p)) ∧ e = tkE t n p ∧ p ≤ e ∧ e ≤ n
theorem kAt_le {t : Nat → Nat} {n p : Nat} : kAt t n p ≤ 4 := by
  unfold kAt
  split
  · exact (kdC_le _).1
  · decide
set_option maxRecDepth 10000 in
theorem c_isRow (I : SI) (J : SJ) (n p e w : Nat) (t : Nat → Nat) (h : TX I n t) (hT : TKS I n t p e) (hw : w < 9) (d : Nat) (hd : 3 < d) : Tri d YX6_isRow 117 [vr 20 0, vr 66 w] (S0 I J) (fun r σ => σ = S0 I J ∧ r = some (vi (bi (isW t n w p e)))) := by
  refine Tri.of (M := MX6_isRow) k_X6_isRow ⟨Nat.le_refl _, Nat.le_refl _⟩ (Nat.le_of_ble_eq_true rfl) ?_
  obtain ⟨⟨a1, a2, a3, a4⟩, b1, b2, b3⟩ := hT
  have h2 := h.2.1
  have hk4 := kAt_le (t := t) (n := n) (p := p)
  have hl := slen_9 w hw
  have esub : I 20 0 4 - I 20 0 3 = nI (e - p) := by rw [a1, a2, pk_sub b2]
  have loop : ∀ (m i : Nat), i + m = nthD slen w 0 → kAt t n p = 1 → e - p = nthD slen w 0 → allN i (fun i => decide (t (p + i) = chr w i)) = true → Sat none MX6_isRow d 117 (fun r σ => σ = S0 I J ∧ r = some (vi (bi (isW t n w p e)))) 39 [some (vr 20 0), some (vr 66 w), some (vi (nI i))] [] (S0 I J) := by
    intro m
    induction m with
    | zero =>
      intro i hi hk he ha
      have ei : i = nthD slen w 0 := by omega
      refine Sat.of k_X6_isRow [39] 60 ?_
      refine ⟨1, 117, by omega, Nat.le_refl _, (c_len I J w hw 1 (by decide)).mono ?_⟩
      rintro r σ ⟨rfl, rfl⟩
      refine ⟨fun c => ⟨rfl, Or.inr rfl, rfl, ?_⟩, fun c => absurd (nI_le (a := nthD slen w 0) (b := i) (by omega) (by omega)) c⟩
      unfold isW
      rw [decide_eq_true hk, decide_eq_true he, ← ei, ha]
      rfl
    | succ m ih =>
      intro i hi hk he ha
      have eix : (I 20 0 3 + nI i).toNatClampNeg = p + i := by rw [a1, nI_add, nI_clamp (by omega)]
      obtain ⟨t1, t2⟩ := h.2.2 (p + i) (by omega)
      have hc := (chr_t w hw i (by omega)).2
      refine Sat.of k_X6_isRow [39] 60 ?_
      refine ⟨1, 117, by omega, Nat.le_refl _, (c_len I J w hw 1 (by decide)).mono ?_⟩
      rintro r σ ⟨rfl, rfl⟩
      refine ⟨fun c => absurd ((nI_leI (a := nthD slen w 0) (by omega) (by omega)).mp c) (by omega), fun c => ⟨?_, 3, 117, hd, Nat.le_refl _, (c_charAt I J w i hw (by omega) 3 (by decide)).mono ?_⟩⟩
      · show vp_in (I 20 0 3 + nI i) 160
        rw [a1, nI_add]
        exact vp_in_nI (by omega) (by decide)
      · rintro r σ ⟨rfl, rfl⟩
        refine ⟨fun c1 => ?_, fun c1 => ⟨rfl, Or.inl rfl, rfl, ?_⟩⟩
        · have c1 : I 26 0 (I 20 0 3 + nI i).toNatClampNeg = nI (chr w i) := c1
          rw [eix, t1] at c1
          have e1 := (nI_eq (by omega) (by omega)).mp c1
          refine (ih (i + 1) (by omega) hk he ?_).to (by rw [← nI_1]; rfl) rfl
          simp only [allN, ha, Bool.true_and]
          exact decide_eq_true e1
        · have c1 : ¬ I 26 0 (I 20 0 3 + nI i).toNatClampNeg = nI (chr w i) := c1
          rw [eix, t1] at c1
          have hf : allN (nthD slen w 0) (fun i => decide (t (p + i) = chr w i)) = false := by
            rw [← Bool.not_eq_true, allN_t]
            intro q
            have := of_decide_eq_true (q i (by omega))
            exact c1 (by rw [this])
          unfold isW
          rw [hf, Bool.and_false]
          rfl
  have no : ¬ (kAt t n p = 1 ∧ e - p = nthD slen w 0) → isW t n w p e = false := fun q => by
    unfold isW
    by_cases q1 : kAt t n p = 1
    · rw [decide_eq_false (fun e => q ⟨q1, e⟩), Bool.and_false, Bool.false_and]
    · rw [decide_eq_false q1, Bool.false_and, Bool.false_and]
  refine Sat.of k_X6_isRow [39] 60 ?_
  refine ⟨fun c => ⟨rfl, Or.inl rfl, rfl, ?_⟩, fun c => ⟨1, 117, by omega, Nat.le_refl _, (c_len I J w hw 1 (by decide)).mono ?_⟩⟩
  · have c : ¬ I 20 0 5 = nI 1 := c
    rw [a3] at c
    rw [no (fun q => c (by rw [q.1]))]
    rfl
  · have c : I 20 0 5 = nI 1 := c
    rw [a3] at c
    have hk := (nI_eq (by omega) (by decide)).mp c
    rintro r σ ⟨rfl, rfl⟩
    refine ⟨fun c1 => ⟨rfl, Or.inl rfl, rfl, ?_⟩, fun c1 => ⟨fun c2 => loop (nthD slen w 0) 0 (by omega) hk ?_ rfl, fun c2 => ?_⟩⟩
    · have c1 : ¬ I 20 0 4 - I 20 0 3 = nI (nthD slen w 0) := c1
      rw [esub] at c1
      rw [no (fun q => c1 (by rw [q.2]))]
      rfl
    · have c1 : I 20 0 4 - I 20 0 3 = nI (nthD slen w 0) := c1
      rw [esub] at c1
      exact (nI_eq (by omega) (by omega)).mp c1
    · have c2 : ¬ I 20 0 4 ≤ I 20 0 2 := c2
      rw [a2, h.1] at c2
      exact absurd (nI_le b3 (by omega)) c2
/-- an event's letter -/
def evO (t : Nat → Nat) (n ev p e : Nat) : Option Nat := if kAt t n p = 1 ∧ e - p = 1 ∧ t p < 97 + ev then some (t p - 97) else none
def evR (o : Option Nat) : Int32 := match o with
  | some x => nI x
  | none => -9
theorem kdC_1 {c : Nat} (h : kdC c = 1) : 97 ≤ c ∧ c ≤ 122 := by
  unfold kdC at h
  split at h
  · assumption
  · split at h
    · omega
    · split at h <;> omega
set_option maxRecDepth 10000 in
theorem c_eventOfToken (I : SI) (J : SJ) (n p e ev : Nat) (L : List Ob) (t : Nat → Nat) (h : TX I n t) (hT : TKS I n t p e) (hB : BK I 0 ev L) (d : Nat) (hd : 0 < d) : Tri d YX6_eventOfToken 117 [vr 20 0] (S0 I J) (fun r σ => σ = S0 I J ∧ r = some (vi (evR (evO t n ev p e)))) := by
  refine Tri.of (M := MX6_eventOfToken) k_X6_eventOfToken ⟨Nat.le_refl _, Nat.le_refl _⟩ (Nat.le_of_ble_eq_true rfl) ?_
  obtain ⟨⟨a1, a2, a3, a4⟩, b1, b2, b3⟩ := hT
  have h2 := h.2.1
  have hk4 := kAt_le (t := t) (n := n) (p := p)
  have esub : I 20 0 4 - I 20 0 3 = nI (e - p) := by rw [a1, a2, pk_sub b2]
  have h5 := hB.2.2.2.2.1
  refine Sat.of k_X6_eventOfToken [] 60 ?_
  refine ⟨fun c => ⟨rfl, trivial, rfl, ?_⟩, fun c => ⟨fun c1 => ⟨rfl, trivial, rfl, ?_⟩, fun c1 => ⟨fun c2 => ?_, fun c2 => ?_⟩⟩⟩
  · have c : ¬ I 20 0 5 = nI 1 := c
    rw [a3] at c
    unfold evO
    rw [if_neg (fun q => c (by rw [q.1]))]
    rfl
  · have c1 : ¬ I 20 0 4 - I 20 0 3 = nI 1 := c1
    rw [esub] at c1
    unfold evO
    rw [if_neg (fun q => c1 (by rw [q.2.1]))]
    rfl
  · have c : I 20 0 5 = nI 1 := c
    rw [a3] at c
    have hk := (nI_eq (by omega) (by decide)).mp c
    have c1 : I 20 0 4 - I 20 0 3 = nI 1 := c1
    rw [esub] at c1
    have he1 := (nI_eq (by omega) (by decide)).mp c1
    have hkc : kdC (t p) = 1 := by
      unfold kAt at hk
      rw [if_pos (by omega)] at hk
      exact hk
    obtain ⟨k1, k2⟩ := kdC_1 hkc
    obtain ⟨t1, t2⟩ := h.2.2 p (by omega)
    have ev1 : I 26 0 (I 20 0 3).toNatClampNeg - 97 = nI (t p - 97) := by rw [a1, nI_clamp (by omega), t1, show (97 : Int32) = nI 97 from rfl, pk_sub k1]
    refine ⟨?_, 0, 117, hd, Nat.le_refl _, (c_isEvent I J 0 ev L (nI (t p - 97)) hB 0).to ?_ rfl ?_⟩
    · show vp_in (I 20 0 3) 160
      rw [a1]
      exact vp_in_nI (by omega) (by decide)
    · show [vr 3 0, vi (I 26 0 (I 20 0 3).toNatClampNeg - 97)] = _
      rw [ev1]
    · rintro r σ ⟨rfl, rfl⟩
      refine ⟨fun c3 => ⟨rfl, trivial, rfl, ?_⟩, fun c3 => ⟨rfl, trivial, rfl, ?_⟩⟩
      · have c3 := bi_f c3
        have : ¬ t p - 97 < ev := fun q => by
          rw [isIn_nI q (by omega)] at c3
          cases c3
        unfold evO
        rw [if_neg (fun q => this (by omega))]
        rfl
      · have c3 := bi_t c3
        obtain ⟨j, j1, j2⟩ := isIn_of c3 (by omega)
        have ej := (nI_eq (by omega) (by omega)).mp j2
        unfold evO
        rw [if_pos ⟨hk, he1, by omega⟩]
        show some (vi (I 26 0 (I 20 0 3).toNatClampNeg - 97)) = _
        rw [ev1]
        rfl
  · have c1 : I 20 0 4 - I 20 0 3 = nI 1 := c1
    rw [esub] at c1
    have he1 := (nI_eq (by omega) (by decide)).mp c1
    have c2 : ¬ I 20 0 3 < I 20 0 2 := c2
    rw [a1, h.1] at c2
    exact absurd (nI_lt (by omega) (by omega)) c2
/-- the set that is told; 0: none -/
def wdS (t : Nat → Nat) (n p e : Nat) : Nat := if isW t n 1 p e then 3 else if isW t n 2 p e then 6144 else if isW t n 3 p e then 7216 else if isW t n 4 p e then 7936 else if isW t n 5 p e then 120 else if isW t n 6 p e then 2044 else if isW t n 7 p e then 2050 else if isW t n 8 p e then 64 else 0
def stR (t : Nat → Nat) (n p e : Nat) : Nat := if kAt t n p = 2 then vlN t p (e - p) else wdS t n p e
set_option maxRecDepth 10000 in
theorem c_setOfToken (I : SI) (J : SJ) (n p e : Nat) (t : Nat → Nat) (h : TX I n t) (hT : TKS I n t p e) (d : Nat) (hd : 4 < d) : Tri d YX6_setOfToken 117 [vr 20 0] (S0 I J) (fun r σ => σ = S0 I J ∧ r = some (vi (nI (stR t n p e)))) := by
  refine Tri.of (M := MX6_setOfToken) k_X6_setOfToken ⟨Nat.le_refl _, Nat.le_refl _⟩ (Nat.le_of_ble_eq_true rfl) ?_
  have hT0 := hT
  obtain ⟨⟨a1, a2, a3, a4⟩, b1, b2, b3⟩ := hT
  have hk4 := kAt_le (t := t) (n := n) (p := p)
  have row : ∀ w, w < 9 → Tri 4 YX6_isRow 117 [vr 20 0, vr 66 w] (S0 I J) (fun r σ => σ = S0 I J ∧ r = some (vi (bi (isW t n w p e)))) := fun w hw => c_isRow I J n p e w t h hT0 hw 4 (by decide)
  refine Sat.of k_X6_setOfToken [] 60 ?_
  refine ⟨fun c => ?_, fun c => ⟨rfl, trivial, rfl, ?_⟩⟩
  · have c : ¬ I 20 0 5 = nI 2 := c
    rw [a3] at c
    have e0 : stR t n p e = wdS t n p e := by
      unfold stR
      rw [if_neg (fun q => c (by rw [q]))]
    rw [e0]
    unfold wdS
    refine ⟨4, 117, hd, Nat.le_refl _, (row 1 (by decide)).mono ?_⟩
    rintro r σ ⟨rfl, rfl⟩
    refine ⟨fun q => ?_, fun q => ⟨rfl, trivial, rfl, by rw [bi_t q]; rfl⟩⟩
    rw [bi_f q]
    refine ⟨4, 117, hd, Nat.le_refl _, (row 2 (by decide)).mono ?_⟩
    rintro r σ ⟨rfl, rfl⟩
    refine ⟨fun q => ?_, fun q => ⟨rfl, trivial, rfl, by rw [bi_t q]; rfl⟩⟩
    rw [bi_f q]
    refine ⟨4, 117, hd, Nat.le_refl _, (row 3 (by decide)).mono ?_⟩
    rintro r σ ⟨rfl, rfl⟩
    refine ⟨fun q => ?_, fun q => ⟨rfl, trivial, rfl, by rw [bi_t q]; rfl⟩⟩
    rw [bi_f q]
    refine ⟨4, 117, hd, Nat.le_refl _, (row 4 (by decide)).mono ?_⟩
    rintro r σ ⟨rfl, rfl⟩
    refine ⟨fun q => ?_, fun q => ⟨rfl, trivial, rfl, by rw [bi_t q]; rfl⟩⟩
    rw [bi_f q]
    refine ⟨4, 117, hd, Nat.le_refl _, (row 5 (by decide)).mono ?_⟩
    rintro r σ ⟨rfl, rfl⟩
    refine ⟨fun q => ?_, fun q => ⟨rfl, trivial, rfl, by rw [bi_t q]; rfl⟩⟩
    rw [bi_f q]
    refine ⟨4, 117, hd, Nat.le_refl _, (row 6 (by decide)).mono ?_⟩
    rintro r σ ⟨rfl, rfl⟩
    refine ⟨fun q => ?_, fun q => ⟨rfl, trivial, rfl, by rw [bi_t q]; rfl⟩⟩
    rw [bi_f q]
    refine ⟨4, 117, hd, Nat.le_refl _, (row 7 (by decide)).mono ?_⟩
    rintro r σ ⟨rfl, rfl⟩
    refine ⟨fun q => ?_, fun q => ⟨rfl, trivial, rfl, by rw [bi_t q]; rfl⟩⟩
    rw [bi_f q]
    refine ⟨4, 117, hd, Nat.le_refl _, (row 8 (by decide)).mono ?_⟩
    rintro r σ ⟨rfl, rfl⟩
    refine ⟨fun q => ⟨rfl, trivial, rfl, by rw [bi_f q]; rfl⟩, fun q => ⟨rfl, trivial, rfl, by rw [bi_t q]; rfl⟩⟩
  · have c : I 20 0 5 = nI 2 := c
    rw [a3] at c
    have e2 := (nI_eq (by omega) (by decide)).mp c
    unfold stR
    rw [if_pos e2]
    show some (vi (I 20 0 6)) = _
    rw [a4 e2]
theorem told_t {x : Nat} (hx : x < 2 ^ 31) (I : SI) (J : SJ) (d : Nat) : Tri d YX8_isToldSet 117 [vi (nI x)] (S0 I J) (fun r σ => σ = S0 I J ∧ r = some (vi (bi (decide (1 ≤ x ∧ x ≤ 8191))))) := by
  refine Tri.of (M := MX8_isToldSet) k_X8_isToldSet ⟨Nat.le_refl _, Nat.le_refl _⟩ (Nat.le_of_ble_eq_true rfl) ?_
  refine Sat.of k_X8_isToldSet [] 60 ?_
  refine ⟨fun c => ⟨rfl, Or.inl rfl, rfl, ?_⟩, fun c => ⟨fun c1 => ⟨rfl, Or.inl rfl, rfl, ?_⟩, fun c1 => ⟨rfl, Or.inr rfl, rfl, ?_⟩⟩⟩
  · have c : nI x < nI 1 := c
    rw [nI_ltI hx (by decide)] at c
    rw [decide_eq_false (by omega)]
    rfl
  · have c1 : nI 8191 < nI x := c1
    rw [nI_ltI (by decide) hx] at c1
    rw [decide_eq_false (by omega)]
    rfl
  · have c : ¬ nI x < nI 1 := c
    rw [nI_ltI hx (by decide)] at c
    have c1 : ¬ nI 8191 < nI x := c1
    rw [nI_ltI (by decide) hx] at c1
    rw [decide_eq_true (by omega)]
    rfl
