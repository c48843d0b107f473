/-! The model: small things -/
def inB (v a b : Int32) : Bool := decide (a ≤ v ∧ v ≤ b)
theorem inB_in (x : Int32) (n : Nat) (hn : n < 2 ^ 31) : inB x 0 (nI n - 1) = isIn x n := by
  unfold inB isIn
  by_cases h : x < 0
  · rw [decide_eq_false (fun q => absurd h (by rw [Int32.not_lt]; exact q.1)), decide_eq_false (fun q => absurd h (by rw [Int32.not_lt]; exact q.1))]
  · obtain ⟨j, j1, rfl⟩ := nI_of h
    have h0 : (0 : Int32) ≤ nI j := Int32.not_lt.mp h
    rcases Nat.eq_zero_or_pos n with e | e
    · subst e
      have h1 : ¬ nI j ≤ nI 0 - 1 := fun q => absurd (Int32.le_trans h0 q) (by decide)
      have h2 : ¬ nI j < nI 0 := fun q => absurd q h
      rw [decide_eq_false (fun q => h1 q.2), decide_eq_false (fun q => h2 q.2)]
    · rw [nI_m1 e]
      congr 1
      rw [nI_leI j1 (by omega), nI_ltI j1 hn]
      exact propext ⟨fun q => ⟨q.1, by omega⟩, fun q => ⟨q.1, by omega⟩⟩
theorem inB_lit (x : Int32) (n : Nat) (hn : n + 1 < 2 ^ 31) : inB x 0 (nI n) = isIn x (n + 1) := by
  rw [← inB_in x (n + 1) hn, nI_m1 (by omega)]
  rfl
theorem inB_bet (x : Int32) (a b : Nat) (ha : a < 2 ^ 31) (hb : b + 1 < 2 ^ 31) : inB x (nI a) (nI b) = isBet x a b := by
  unfold inB isBet isIn
  by_cases h : x < 0
  · have h1 : ¬ (0 : Int32) ≤ x := by rw [Int32.not_le]; exact h
    have h2 : ¬ nI a ≤ x := fun q => absurd (Int32.le_trans (show (0 : Int32) ≤ nI a from nI_le (a := 0) (by omega) ha) q) h1
    rw [decide_eq_false (fun q => h2 q.1), decide_eq_false (fun q => h1 q.1), Bool.false_and]
  · obtain ⟨j, j1, rfl⟩ := nI_of h
    have h0 : (0 : Int32) ≤ nI j := Int32.not_lt.mp h
    rw [Bool.eq_iff_iff, decide_eq_true_eq, Bool.and_eq_true, decide_eq_true_eq, Bool.not_eq_true', decide_eq_false_iff_not, nI_leI ha j1, nI_leI j1 (by omega), nI_ltI j1 hb, nI_ltI j1 ha]
    constructor
    · rintro ⟨q1, q2⟩
      exact ⟨⟨h0, by omega⟩, fun q => by omega⟩
    · rintro ⟨q1, q2⟩
      exact ⟨Nat.le_of_not_lt (fun q => q2 ⟨h0, q⟩), by omega⟩
theorem isTld_bet (w : Int32) : isTld w = isBet w 1 8191 := by
  unfold isTld isBet
  rw [Bool.eq_iff_iff, Bool.and_eq_true, Bool.and_eq_true, Bool.not_eq_true', Bool.not_eq_true']
  constructor
  · rintro ⟨q1, q2⟩
    refine ⟨q1, ?_⟩
    obtain ⟨j, j1, rfl⟩ := isIn_of q1 (by decide)
    have : 1 ≤ j := by
      rcases Nat.eq_zero_or_pos j with e | e
      · rw [e] at q2
        exact absurd q2 (by decide)
      · exact e
    exact isIn_f2 (n := 1) (nI_le this (by omega))
  · rintro ⟨q1, q2⟩
    refine ⟨q1, decide_eq_false (fun e => ?_)⟩
    rw [e] at q2
    exact absurd q2 (by decide)
set_option maxRecDepth 10000 in
theorem m_in (I : SI) (J : SJ) (v a b : Int32) (d : Nat) : Tri d YX9_in 117 [vi v, vi a, vi b] (S0 I J) (fun r σ => σ = S0 I J ∧ r = some (vi (bi (inB v a b)))) := by
  refine Tri.of (M := MX9_in) k_X9_in ⟨Nat.le_refl _, Nat.le_refl _⟩ (Nat.le_of_ble_eq_true rfl) ?_
  refine Sat.of k_X9_in [] 60 ?_
  refine ⟨fun c => ⟨rfl, Or.inl rfl, rfl, ?_⟩, fun c => ⟨fun c1 => ⟨rfl, Or.inl rfl, rfl, ?_⟩, fun c1 => ⟨rfl, Or.inr rfl, rfl, ?_⟩⟩⟩
  · unfold inB
    rw [decide_eq_false (fun q => absurd c (by rw [Int32.not_lt]; exact q.1))]
    rfl
  · unfold inB
    rw [decide_eq_false (fun q => absurd c1 (by rw [Int32.not_lt]; exact q.2))]
    rfl
  · unfold inB
    rw [decide_eq_true ⟨Int32.not_lt.mp c, Int32.not_lt.mp c1⟩]
    rfl
def bgT (r : Nat) : Nat := nthD [0, 0, 5, 10, 12, 15, 10, 5, 5, 10, 15, 20, 25] r 0
def enT (r : Nat) : Nat := nthD [5, 10, 15, 15, 18, 20, 20, 20, 25, 25, 25, 25, 30] r 0
/-- the model's tables -/
def MC (I : SI) : Prop := (∀ r, r < 13 → I 38 0 r = nI (bgT r)) ∧ (∀ r, r < 13 → I 39 0 r = nI (enT r)) ∧ ∀ k, k < 169 → I 40 0 k = nI (TT (k / 13) (k % 13))
/-- a row of observations -/
def RW (I : SI) (t o : Nat) (L : List Ob) : Prop := I t 0 o = nI L.length ∧ L.length ≤ 8 ∧ ∀ j, j < L.length → I t 0 (o + 1 + 3 * j) = nI (nthD L j (0, 0, 0)).1 ∧ I t 0 (o + 2 + 3 * j) = nI (nthD L j (0, 0, 0)).2.1 ∧ I t 0 (o + 3 + 3 * j) = nI (nthD L j (0, 0, 0)).2.2
def MB (I : SI) (ev : Nat) (L : List Ob) : Prop := I 29 0 6 = nI ev ∧ 2 ≤ ev ∧ ev ≤ 5 ∧ RW I 30 0 L ∧ WFo ev L ∧ MC I
/-- nothing but what is tried has changed -/
def frM (I I1 : SI) : Prop := ∀ a b, ¬ (a = 41 ∨ a = 42) → I1 a b = I a b
theorem frM.rf {I : SI} : frM I I := fun _ _ _ => rfl
theorem frM.tr {I I1 I2 : SI} (h : frM I I1) (h1 : frM I1 I2) : frM I I2 := fun a b q => (h1 a b q).trans (h a b q)
theorem MB.k {I I1 : SI} {ev : Nat} {L : List Ob} (h : MB I ev L) (hf : ∀ a b, (a = 29 ∨ a = 30 ∨ a = 38 ∨ a = 39 ∨ a = 40) → I1 a b = I a b) : MB I1 ev L := by
  obtain ⟨h1, h2, h3, h4, h5, h6⟩ := h
  refine ⟨by rw [hf 29 0 (by omega)]; exact h1, h2, h3, ?_, h5, ?_⟩
  · unfold RW at h4 ⊢
    rw [hf 30 0 (by omega)]
    exact h4
  · unfold MC at h6 ⊢
    rw [hf 38 0 (by omega), hf 39 0 (by omega), hf 40 0 (by omega)]
    exact h6
theorem MB.fr {I I1 : SI} {ev : Nat} {L : List Ob} (h : MB I ev L) (hf : frM I I1) : MB I1 ev L := h.k (fun a b q => hf a b (by omega))
theorem k3 (k : Nat) : (1 : Int32) + 3 * nI k = nI (1 + 3 * k) := by
  rw [show (1 : Int32) = nI 1 from rfl, show (3 : Int32) = nI 3 from rfl, pk_mul, nI_add]
set_option maxRecDepth 10000 in
theorem m_x (I : SI) (J : SJ) (L : List Ob) (k : Nat) (h : RW I 30 0 L) (hk : k < L.length) (d : Nat) : Tri d YX9_x 117 [vr 29 0, vi (nI k)] (S0 I J) (fun r σ => σ = S0 I J ∧ r = some (vi (nI (nthD L k (0, 0, 0)).1))) := by
  refine Tri.of (M := MX9_x) k_X9_x ⟨Nat.le_refl _, Nat.le_refl _⟩ (Nat.le_of_ble_eq_true rfl) ?_
  have h8 := h.2.1
  refine Sat.of k_X9_x [] 60 ?_
  refine ⟨?_, rfl, trivial, rfl, ?_⟩
  · show vp_in (1 + 3 * nI k) 25
    rw [k3]
    exact vp_in_nI (by omega) (by decide)
  · show some (vi (I 30 0 (1 + 3 * nI k).toNatClampNeg)) = _
    rw [k3, nI_clamp (by omega), ← (h.2.2 k hk).1, show 0 + 1 + 3 * k = 1 + 3 * k by omega]
set_option maxRecDepth 10000 in
theorem m_set (I : SI) (J : SJ) (L : List Ob) (k : Nat) (h : RW I 30 0 L) (hk : k < L.length) (d : Nat) : Tri d YX9_set 117 [vr 29 0, vi (nI k)] (S0 I J) (fun r σ => σ = S0 I J ∧ r = some (vi (nI (nthD L k (0, 0, 0)).2.1))) := by
  refine Tri.of (M := MX9_set) k_X9_set ⟨Nat.le_refl _, Nat.le_refl _⟩ (Nat.le_of_ble_eq_true rfl) ?_
  have h8 := h.2.1
  have e : (1 : Int32) + 3 * nI k + 1 = nI (2 + 3 * k) := by
    rw [k3, nI_1, show 1 + 3 * k + 1 = 2 + 3 * k by omega]
  refine Sat.of k_X9_set [] 60 ?_
  refine ⟨?_, rfl, trivial, rfl, ?_⟩
  · show vp_in (1 + 3 * nI k + 1) 25
    rw [e]
    exact vp_in_nI (by omega) (by decide)
  · show some (vi (I 30 0 (1 + 3 * nI k + 1).toNatClampNeg)) = _
    rw [e, nI_clamp (by omega), ← (h.2.2 k hk).2.1, show 0 + 2 + 3 * k = 2 + 3 * k by omega]
set_option maxRecDepth 10000 in
theorem m_y (I : SI) (J : SJ) (L : List Ob) (k : Nat) (h : RW I 30 0 L) (hk : k < L.length) (d : Nat) : Tri d YX9_y 117 [vr 29 0, vi (nI k)] (S0 I J) (fun r σ => σ = S0 I J ∧ r = some (vi (nI (nthD L k (0, 0, 0)).2.2))) := by
  refine Tri.of (M := MX9_y) k_X9_y ⟨Nat.le_refl _, Nat.le_refl _⟩ (Nat.le_of_ble_eq_true rfl) ?_
  have h8 := h.2.1
  have e : (1 : Int32) + 3 * nI k + 2 = nI (3 + 3 * k) := by
    rw [k3, show (2 : Int32) = nI 2 from rfl, nI_add, show 1 + 3 * k + 2 = 3 + 3 * k by omega]
  refine Sat.of k_X9_y [] 60 ?_
  refine ⟨?_, rfl, trivial, rfl, ?_⟩
  · show vp_in (1 + 3 * nI k + 2) 25
    rw [e]
    exact vp_in_nI (by omega) (by decide)
  · show some (vi (I 30 0 (1 + 3 * nI k + 2).toNatClampNeg)) = _
    rw [e, nI_clamp (by omega), ← (h.2.2 k hk).2.2, show 0 + 3 + 3 * k = 3 + 3 * k by omega]
theorem tr_tab : ∀ r, r < 13 → ∀ b : Bool, bi b <<< ((12 - nI r) &&& 31) = nI (if b then 2 ^ (12 - r) else 0) := by decide +kernel
set_option maxRecDepth 10000 in
theorem m_turnedSet (I : SI) (J : SJ) (a : Nat) (ha : a < 8192) (d : Nat) : Tri d YX9_turnedSet 117 [vi (nI a)] (S0 I J) (fun r σ => σ = S0 I J ∧ r = some (vi (nI (trn a)))) := by
  refine Tri.of (M := MX9_turnedSet) k_X9_turnedSet ⟨Nat.le_refl _, Nat.le_refl _⟩ (Nat.le_of_ble_eq_true rfl) ?_
  have loop : ∀ (m r : Nat), r + m = 13 → Sat none MX9_turnedSet d 117 (fun r σ => σ = S0 I J ∧ r = some (vi (nI (trn a)))) 4 [some (vi (nI a)), some (vi (nI (orN r (fun s => if a.testBit s then T2 13 s else 0)))), some (vi (nI r))] [] (S0 I J) := by
    intro m
    induction m with
    | zero =>
      intro r hr
      have e : r = 13 := by omega
      subst e
      refine Sat.of k_X9_turnedSet [4] 60 ?_
      exact ⟨fun c => ⟨rfl, trivial, rfl, rfl⟩, fun c => absurd (nI_le (a := 13) (b := 13) (by omega) (by omega)) c⟩
    | succ m ih =>
      intro r hr
      refine Sat.of k_X9_turnedSet [4] 60 ?_
      refine ⟨fun c => absurd ((nI_leI (a := 13) (by omega) (by omega)).mp c) (by omega), fun c => (ih (r + 1) (by omega)).to ?_ rfl⟩
      show [some (vi (nI a)), some (vi (nI (orN r (fun s => if a.testBit s then T2 13 s else 0)) ||| ((nI a >>> (nI r &&& 31)) &&& 1) <<< ((12 - nI r) &&& 31))), some (vi (nI r + 1))] = _
      rw [nx_bit (by omega) (by omega), tr_tab r (by omega), nx_or, nI_1]
      rfl
  refine Sat.of k_X9_turnedSet [4] 60 ?_
  exact (loop 13 0 (by omega)).to rfl rfl
def cpF (a b k : Nat) : Nat := if a.testBit (k / 13) = true ∧ b.testBit (k % 13) = true then TT (k / 13) (k % 13) else 0
theorem cp_all {a b : Nat} : orN 169 (cpF a b) = cmps a b := by
  apply Nat.eq_of_testBit_eq
  intro c
  unfold cmps
  rw [Bool.eq_iff_iff, orN_bit, orN_bit]
  constructor
  · rintro ⟨k, h1, h2⟩
    unfold cpF at h2
    split at h2
    · rename_i q
      refine ⟨k / 13, by omega, ?_⟩
      rw [if_pos q.1, rowF_bit]
      refine ⟨k % 13, by omega, q.2, ?_⟩
      unfold T2
      rw [if_neg (by omega)]
      exact h2
    · simp at h2
  · rintro ⟨r, h1, h2⟩
    by_cases q : a.testBit r = true
    · rw [if_pos q, rowF_bit] at h2
      obtain ⟨s, s1, s2, s3⟩ := h2
      unfold T2 at s3
      rw [if_neg (by omega)] at s3
      refine ⟨13 * r + s, by omega, ?_⟩
      unfold cpF
      rw [show (13 * r + s) / 13 = r by omega, show (13 * r + s) % 13 = s by omega, if_pos ⟨q, s2⟩]
      exact s3
    · rw [if_neg q] at h2
      simp at h2
set_option maxRecDepth 10000 in
theorem m_composedOf (I : SI) (J : SJ) (a b : Nat) (h : MC I) (ha : a < 8192) (hb : b < 8192) (d : Nat) : Tri d YX9_composedOf 117 [vr 29 0, vi (nI a), vi (nI b)] (S0 I J) (fun r σ => σ = S0 I J ∧ r = some (vi (nI (cmps a b)))) := by
  refine Tri.of (M := MX9_composedOf) k_X9_composedOf ⟨Nat.le_refl _, Nat.le_refl _⟩ (Nat.le_of_ble_eq_true rfl) ?_
  have loop : ∀ (m k : Nat), k + m = 169 → Sat none MX9_composedOf d 117 (fun r σ => σ = S0 I J ∧ r = some (vi (nI (cmps a b)))) 5 [some (vr 29 0), some (vi (nI a)), some (vi (nI b)), some (vi (nI (orN k (cpF a b)))), some (vi (nI k))] [] (S0 I J) := by
    intro m
    induction m with
    | zero =>
      intro k hk
      have e : k = 169 := by omega
      subst e
      refine Sat.of k_X9_composedOf [5, 51] 60 ?_
      refine ⟨fun c => ⟨rfl, trivial, rfl, ?_⟩, fun c => absurd (nI_le (a := 169) (b := 169) (by omega) (by omega)) c⟩
      rw [cp_all]
    | succ m ih =>
      intro k hk
      have e1 : nI k / 13 = nI (k / 13) := pk_div (a := k) (d := 13) (by omega) (by decide) (by decide)
      have e2 : nI k - nI k / 13 * 13 = nI (k % 13) := pk_rem (a := k) (d := 13) (by omega) (by decide) (by decide)
      have s51 : ∀ v, v = cpF a b k → Sat none MX9_composedOf d 117 (fun r σ => σ = S0 I J ∧ r = some (vi (nI (cmps a b)))) 51 [some (vr 29 0), some (vi (nI a)), some (vi (nI b)), some (vi (nI (orN k (cpF a b)))), some (vi (nI k))] [vi (nI v), vi (nI (orN k (cpF a b)))] (S0 I J) := fun v hv => by
        subst hv
        refine Sat.of k_X9_composedOf [5] 60 ?_
        refine (ih (k + 1) (by omega)).to ?_ rfl
        show [some (vr 29 0), some (vi (nI a)), some (vi (nI b)), some (vi (nI (orN k (cpF a b)) ||| nI (cpF a b k))), some (vi (nI k + 1))] = _
        rw [nx_or, nI_1]
        rfl
      have b1 : (nI a >>> (nI k / 13 &&& 31)) &&& 1 = bi (a.testBit (k / 13)) := by rw [e1, nx_bit (by omega) (by omega)]
      have b2 : (nI b >>> ((nI k - nI k / 13 * 13) &&& 31)) &&& 1 = bi (b.testBit (k % 13)) := by rw [e2, nx_bit (by omega) (by omega)]
      refine Sat.of k_X9_composedOf [5, 51] 60 ?_
      refine ⟨fun c => absurd ((nI_leI (a := 169) (by omega) (by omega)).mp c) (by omega), fun c => ⟨by decide, fun c1 => ?_, fun c1 => ⟨by decide, fun c2 => ?_, fun c2 => ⟨vp_in_nI (by omega) (by decide), ?_⟩⟩⟩⟩
      · have c1 : ¬ (nI a >>> (nI k / 13 &&& 31)) &&& 1 = 1 := c1
        rw [b1] at c1
        refine s51 0 ?_
        unfold cpF
        rw [if_neg (fun q => c1 (by rw [q.1]; rfl))]
      · have c2 : ¬ (nI b >>> ((nI k - nI k / 13 * 13) &&& 31)) &&& 1 = 1 := c2
        rw [b2] at c2
        refine s51 0 ?_
        unfold cpF
        rw [if_neg (fun q => c2 (by rw [q.2]; rfl))]
      · have c1 : (nI a >>> (nI k / 13 &&& 31)) &&& 1 = 1 := c1
        have c2 : (nI b >>> ((nI k - nI k / 13 * 13) &&& 31)) &&& 1 = 1 := c2
        rw [b1] at c1
        rw [b2] at c2
        have q1 : a.testBit (k / 13) = true := bi_t (by rw [c1]; decide)
        have q2 : b.testBit (k % 13) = true := bi_t (by rw [c2]; decide)
        have e3 : cpF a b k = TT (k / 13) (k % 13) := by
          unfold cpF
          rw [if_pos ⟨q1, q2⟩]
        have e4 : I 40 0 (nI k).toNatClampNeg = nI (cpF a b k) := by
          rw [nI_clamp (by omega), h.2.2 k (by omega), e3]
        show Sat none MX9_composedOf d 117 _ 51 _ [vi (I 40 0 (nI k).toNatClampNeg), vi (nI (orN k (cpF a b)))] (S0 I J)
        rw [e4]
        exact s51 _ rfl
  refine Sat.of k_X9_composedOf [5] 60 ?_
  exact (loop 169 0 (by omega)).to rfl rfl
