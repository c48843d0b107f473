/-! How things are made: the algebra -/
theorem uA_same {A : SA} {t k j : Nat} (h : A t k j = true) : ∃ B, A = uA B t k j := ⟨A, by
  funext a b c
  unfold uA
  split
  · rename_i q
    rw [q.1, q.2.1, q.2.2, h]
  · rfl⟩
theorem low_up {r s x : Nat} (hs : s < 7) (hx : x < 2 ^ s) : lowF r (2 ^ s + x) = lowF r x ||| T2 r s := by
  have e : 2 ^ s + x = x ||| 2 ^ s := by rw [or_add hx, Nat.add_comm]
  refine Nat.eq_of_testBit_eq fun c => ?_
  rw [Bool.eq_iff_iff, Nat.testBit_or, Bool.or_eq_true, lowF_bit, lowF_bit, e]
  constructor
  · rintro ⟨i, h1, h2, h3⟩
    rw [Nat.testBit_or, Bool.or_eq_true, two_tb] at h2
    rcases h2 with q | q
    · exact Or.inl ⟨i, h1, q, h3⟩
    · exact Or.inr (by rw [q]; exact h3)
  · rintro (⟨i, h1, h2, h3⟩ | h)
    · exact ⟨i, h1, by rw [Nat.testBit_or, h2]; rfl, h3⟩
    · exact ⟨s, hs, by rw [Nat.testBit_or, Bool.or_eq_true]; exact Or.inr (two_tb.mpr rfl), h⟩
theorem high_up {r s x : Nat} (hs : s < 6) (hx : x < 2 ^ s) : highF r (2 ^ s + x) = highF r x ||| T2 r (s + 7) := by
  have e : 2 ^ s + x = x ||| 2 ^ s := by rw [or_add hx, Nat.add_comm]
  refine Nat.eq_of_testBit_eq fun c => ?_
  rw [Bool.eq_iff_iff, Nat.testBit_or, Bool.or_eq_true, highF_bit, highF_bit, e]
  constructor
  · rintro ⟨i, h1, h2, h3⟩
    rw [Nat.testBit_or, Bool.or_eq_true, two_tb] at h2
    rcases h2 with q | q
    · exact Or.inl ⟨i, h1, q, h3⟩
    · exact Or.inr (by rw [q]; exact h3)
  · rintro (⟨i, h1, h2, h3⟩ | h)
    · exact ⟨i, h1, by rw [Nat.testBit_or, h2]; rfl, h3⟩
    · exact ⟨s, hs, by rw [Nat.testBit_or, Bool.or_eq_true]; exact Or.inr (two_tb.mpr rfl), h⟩
theorem low_0 {r : Nat} : lowF r 0 = 0 := by
  refine Nat.eq_of_testBit_eq fun c => ?_
  rw [Nat.zero_testBit]
  cases h : (lowF r 0).testBit c with
  | false => rfl
  | true =>
    obtain ⟨i, _, h2, _⟩ := lowF_bit.mp h
    simp at h2
theorem high_0 {r : Nat} : highF r 0 = 0 := by
  refine Nat.eq_of_testBit_eq fun c => ?_
  rw [Nat.zero_testBit]
  cases h : (highF r 0).testBit c with
  | false => rfl
  | true =>
    obtain ⟨i, _, h2, _⟩ := highF_bit.mp h
    simp at h2
set_option maxRecDepth 10000 in
theorem i_addRel1 (I : SI) (J : SJ) (A : SA) (n start bit one : Nat) (f : Nat → Nat) (hn : n ≤ 117) (hb : bit < 7) (hx : start + 2 ^ bit + 2 ^ bit ≤ 1792) (hf : ∀ a, a < 2 ^ bit → I 1 0 (start + a) = nI (f a)) (d : Nat) : Tri d YX0_addRelation n [vr 1 0, vi (nI start), vi (nI bit), vi (nI one)] (I, J, n, A) (fun r σ => r = none ∧ ∃ I1, σ = (I1, J, n, A) ∧ (∀ a, a < 2 ^ bit → I1 1 0 (start + 2 ^ bit + a) = nI (f a ||| one)) ∧ (∀ x, ¬ (start + 2 ^ bit ≤ x ∧ x < start + 2 ^ bit + 2 ^ bit) → I1 1 0 x = I 1 0 x) ∧ ∀ a b, ¬ (a = 1 ∧ b = 0) → I1 a b = I a b) := by
  refine Tri.of (M := MX0_addRelation) k_X0_addRelation ⟨Nat.le_refl _, hn⟩ (Nat.le_of_ble_eq_true rfl) ?_
  have hw : (1 : Int32) <<< (nI bit &&& 31) = nI (2 ^ bit) := nx_shl (by omega)
  generalize hQ : (fun (r : Option AV) (σ : ST) => r = none ∧ ∃ I1, σ = (I1, J, n, A) ∧ (∀ a, a < 2 ^ bit → I1 1 0 (start + 2 ^ bit + a) = nI (f a ||| one)) ∧ (∀ x, ¬ (start + 2 ^ bit ≤ x ∧ x < start + 2 ^ bit + 2 ^ bit) → I1 1 0 x = I 1 0 x) ∧ ∀ a b, ¬ (a = 1 ∧ b = 0) → I1 a b = I a b) = Q
  have loop : ∀ (m k : Nat) (I1 : SI), k + m = 2 ^ bit → (∀ a, a < k → I1 1 0 (start + 2 ^ bit + a) = nI (f a ||| one)) → (∀ x, ¬ (start + 2 ^ bit ≤ x ∧ x < start + 2 ^ bit + k) → I1 1 0 x = I 1 0 x) → (∀ a b, ¬ (a = 1 ∧ b = 0) → I1 a b = I a b) → Sat none MX0_addRelation d n Q 8 [some (vr 1 0), some (vi (nI start)), some (vi (nI bit)), some (vi (nI one)), some (vi (nI (2 ^ bit))), some (vi (nI k))] [] (I1, J, n, A) := by
    intro m
    induction m with
    | zero =>
      intro k I1 hk g1 g2 g3
      have e : k = 2 ^ bit := by omega
      subst e
      refine Sat.of k_X0_addRelation [8] 60 ?_
      refine ⟨fun _ => ⟨rfl, rfl, ?_⟩, fun c => absurd (nI_le (Nat.le_refl _) (by omega)) c⟩
      rw [← hQ]
      exact ⟨rfl, I1, rfl, g1, g2, g3⟩
    | succ m ih =>
      intro k I1 hk g1 g2 g3
      have i1 : nI start + nI k = nI (start + k) := nI_add _ _
      have i2 : nI start + nI (2 ^ bit) + nI k = nI (start + 2 ^ bit + k) := by rw [nI_add, nI_add]
      have hr : I1 1 0 (start + k) = nI (f k) := by rw [g2 _ (by omega)]; exact hf k (by omega)
      refine Sat.of k_X0_addRelation [8] 60 ?_
      refine ⟨fun c => absurd ((nI_leI (a := 2 ^ bit) (by omega) (by omega)).mp c) (by omega), fun _ => ⟨?_, ?_, ?_⟩⟩
      · show vp_in (nI start + nI k) 1792
        rw [i1]
        exact vp_in_nI (by omega) (by decide)
      · show vp_in (nI start + nI (2 ^ bit) + nI k) 1792
        rw [i2]
        exact vp_in_nI (by omega) (by decide)
      · refine (ih (k + 1) (uI I1 1 0 (start + 2 ^ bit + k) (nI (f k ||| one))) (by omega) (fun a ha => ?_) (fun x hx2 => ?_) (fun a b q => by rw [uI_ne2 q]; exact g3 a b q)).to (by rw [← nI_1 k]; rfl) ?_
        · by_cases e : a = k
          · rw [e, uI_at]
          · rw [uI_j (by omega)]
            exact g1 a (by omega)
        · rw [uI_j (by omega)]
          exact g2 x (by omega)
        · show (uI I1 1 0 (nI start + nI (2 ^ bit) + nI k).toNatClampNeg (I1 1 0 (nI start + nI k).toNatClampNeg ||| nI one), J, n, A) = _
          rw [i1, i2, nI_clamp (by omega), nI_clamp (by omega), hr, nx_or]
  refine Sat.of k_X0_addRelation [8] 60 ?_
  refine (loop (2 ^ bit) 0 I (by omega) (fun a ha => absurd ha (by omega)) (fun _ _ => rfl) (fun _ _ _ => rfl)).to ?_ rfl
  rw [← hw]
  rfl
set_option maxRecDepth 10000 in
theorem i_addRel2 (I : SI) (J : SJ) (A : SA) (n start bit one : Nat) (f : Nat → Nat) (hn : n ≤ 117) (hb : bit < 7) (hx : start + 2 ^ bit + 2 ^ bit ≤ 896) (hf : ∀ a, a < 2 ^ bit → I 2 0 (start + a) = nI (f a)) (d : Nat) : Tri d YX0_addRelation n [vr 2 0, vi (nI start), vi (nI bit), vi (nI one)] (I, J, n, A) (fun r σ => r = none ∧ ∃ I1, σ = (I1, J, n, A) ∧ (∀ a, a < 2 ^ bit → I1 2 0 (start + 2 ^ bit + a) = nI (f a ||| one)) ∧ (∀ x, ¬ (start + 2 ^ bit ≤ x ∧ x < start + 2 ^ bit + 2 ^ bit) → I1 2 0 x = I 2 0 x) ∧ ∀ a b, ¬ (a = 2 ∧ b = 0) → I1 a b = I a b) := by
  refine Tri.of (M := MX0_addRelation) k_X0_addRelation ⟨Nat.le_refl _, hn⟩ (Nat.le_of_ble_eq_true rfl) ?_
  have hw : (1 : Int32) <<< (nI bit &&& 31) = nI (2 ^ bit) := nx_shl (by omega)
  generalize hQ : (fun (r : Option AV) (σ : ST) => r = none ∧ ∃ I1, σ = (I1, J, n, A) ∧ (∀ a, a < 2 ^ bit → I1 2 0 (start + 2 ^ bit + a) = nI (f a ||| one)) ∧ (∀ x, ¬ (start + 2 ^ bit ≤ x ∧ x < start + 2 ^ bit + 2 ^ bit) → I1 2 0 x = I 2 0 x) ∧ ∀ a b, ¬ (a = 2 ∧ b = 0) → I1 a b = I a b) = Q
  have loop : ∀ (m k : Nat) (I1 : SI), k + m = 2 ^ bit → (∀ a, a < k → I1 2 0 (start + 2 ^ bit + a) = nI (f a ||| one)) → (∀ x, ¬ (start + 2 ^ bit ≤ x ∧ x < start + 2 ^ bit + k) → I1 2 0 x = I 2 0 x) → (∀ a b, ¬ (a = 2 ∧ b = 0) → I1 a b = I a b) → Sat none MX0_addRelation d n Q 8 [some (vr 2 0), some (vi (nI start)), some (vi (nI bit)), some (vi (nI one)), some (vi (nI (2 ^ bit))), some (vi (nI k))] [] (I1, J, n, A) := by
    intro m
    induction m with
    | zero =>
      intro k I1 hk g1 g2 g3
      have e : k = 2 ^ bit := by omega
      subst e
      refine Sat.of k_X0_addRelation [8] 60 ?_
      refine ⟨fun _ => ⟨rfl, rfl, ?_⟩, fun c => absurd (nI_le (Nat.le_refl _) (by omega)) c⟩
      rw [← hQ]
      exact ⟨rfl, I1, rfl, g1, g2, g3⟩
    | succ m ih =>
      intro k I1 hk g1 g2 g3
      have i1 : nI start + nI k = nI (start + k) := nI_add _ _
      have i2 : nI start + nI (2 ^ bit) + nI k = nI (start + 2 ^ bit + k) := by rw [nI_add, nI_add]
      have hr : I1 2 0 (start + k) = nI (f k) := by rw [g2 _ (by omega)]; exact hf k (by omega)
      refine Sat.of k_X0_addRelation [8] 60 ?_
      refine ⟨fun c => absurd ((nI_leI (a := 2 ^ bit) (by omega) (by omega)).mp c) (by omega), fun _ => ⟨?_, ?_, ?_⟩⟩
      · show vp_in (nI start + nI k) 896
        rw [i1]
        exact vp_in_nI (by omega) (by decide)
      · show vp_in (nI start + nI (2 ^ bit) + nI k) 896
        rw [i2]
        exact vp_in_nI (by omega) (by decide)
      · refine (ih (k + 1) (uI I1 2 0 (start + 2 ^ bit + k) (nI (f k ||| one))) (by omega) (fun a ha => ?_) (fun x hx2 => ?_) (fun a b q => by rw [uI_ne2 q]; exact g3 a b q)).to (by rw [← nI_1 k]; rfl) ?_
        · by_cases e : a = k
          · rw [e, uI_at]
          · rw [uI_j (by omega)]
            exact g1 a (by omega)
        · rw [uI_j (by omega)]
          exact g2 x (by omega)
        · show (uI I1 2 0 (nI start + nI (2 ^ bit) + nI k).toNatClampNeg (I1 2 0 (nI start + nI k).toNatClampNeg ||| nI one), J, n, A) = _
          rw [i1, i2, nI_clamp (by omega), nI_clamp (by omega), hr, nx_or]
  refine Sat.of k_X0_addRelation [8] 60 ?_
  refine (loop (2 ^ bit) 0 I (by omega) (fun a ha => absurd ha (by omega)) (fun _ _ => rfl) (fun _ _ _ => rfl)).to ?_ rfl
  rw [← hw]
  rfl
