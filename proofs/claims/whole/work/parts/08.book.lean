/-! Book -/
set_option maxRecDepth 10000 in
theorem c_isEvent (I : SI) (J : SJ) (b ev : Nat) (L : List Ob) (x : Int32) (h : BK I b ev L) (d : Nat) : Tri d YX1_isEvent 117 [vr 3 b, vi x] (S0 I J) (fun r σ => σ = S0 I J ∧ r = some (vi (bi (isIn x ev)))) := by
  refine Tri.of (M := MX1_isEvent) k_X1_isEvent ⟨Nat.le_refl _, Nat.le_refl _⟩ (Nat.le_of_ble_eq_true rfl) ?_
  refine Sat.of k_X1_isEvent [] 40 ?_
  refine ⟨fun c1 => ⟨rfl, Or.inl rfl, rfl, ?_⟩, fun c1 => ⟨fun c2 => ⟨rfl, Or.inl rfl, rfl, ?_⟩, fun c2 => ⟨rfl, Or.inr rfl, rfl, ?_⟩⟩⟩
  · rw [isIn_f1 c1]; rfl
  · have c2 : I 3 b 4 ≤ x := c2
    rw [h.1] at c2
    rw [isIn_f2 c2]; rfl
  · have c2 : ¬ I 3 b 4 ≤ x := c2
    rw [h.1] at c2
    rw [isIn_t c1 c2]; rfl
set_option maxRecDepth 10000 in
theorem c_isObservation (I : SI) (J : SJ) (b ev : Nat) (L : List Ob) (x : Int32) (h : BK I b ev L) (d : Nat) : Tri d YX1_isObservation 117 [vr 3 b, vi x] (S0 I J) (fun r σ => σ = S0 I J ∧ r = some (vi (bi (isIn x L.length)))) := by
  refine Tri.of (M := MX1_isObservation) k_X1_isObservation ⟨Nat.le_refl _, Nat.le_refl _⟩ (Nat.le_of_ble_eq_true rfl) ?_
  refine Sat.of k_X1_isObservation [] 40 ?_
  refine ⟨fun c1 => ⟨rfl, Or.inl rfl, rfl, ?_⟩, fun c1 => ⟨fun c2 => ⟨rfl, Or.inl rfl, rfl, ?_⟩, fun c2 => ⟨rfl, Or.inr rfl, rfl, ?_⟩⟩⟩
  · rw [isIn_f1 c1]; rfl
  · have c2 : I 3 b 3 ≤ x := c2
    rw [h.2.1] at c2
    rw [isIn_f2 c2]; rfl
  · have c2 : ¬ I 3 b 3 ≤ x := c2
    rw [h.2.1] at c2
    rw [isIn_t c1 c2]; rfl
/-- two events, not one -/
def two (x y : Int32) (ev : Nat) : Bool := isIn x ev && isIn y ev && decide (x ≠ y)
set_option maxRecDepth 10000 in
theorem c_areTwo (I : SI) (J : SJ) (b ev : Nat) (L : List Ob) (x y : Int32) (h : BK I b ev L) (d : Nat) (hd : 0 < d) : Tri d YX1_areTwo 117 [vr 3 b, vi x, vi y] (S0 I J) (fun r σ => σ = S0 I J ∧ r = some (vi (bi (two x y ev)))) := by
  refine Tri.of (M := MX1_areTwo) k_X1_areTwo ⟨Nat.le_refl _, Nat.le_refl _⟩ (Nat.le_of_ble_eq_true rfl) ?_
  refine Sat.of k_X1_areTwo [] 40 ?_
  refine ⟨0, 117, hd, Nat.le_refl _, (c_isEvent I J b ev L x h 0).mono ?_⟩
  rintro r σ ⟨rfl, rfl⟩
  refine ⟨fun c1 => ⟨rfl, Or.inl rfl, rfl, ?_⟩, fun c1 => ⟨0, 117, hd, Nat.le_refl _, (c_isEvent I J b ev L y h 0).mono ?_⟩⟩
  · simp [two, bi_f c1, bi]
  rintro r σ ⟨rfl, rfl⟩
  refine ⟨fun c2 => ⟨rfl, Or.inl rfl, rfl, ?_⟩, fun c2 => ⟨fun c3 => ⟨rfl, Or.inl rfl, rfl, ?_⟩, fun c3 => ⟨rfl, Or.inr rfl, rfl, ?_⟩⟩⟩
  · simp [two, bi_f c2, bi]
  · simp [two, c3, bi]
  · simp [two, bi_t c1, bi_t c2, c3, bi]
theorem nthD_snoc {α : Type} : ∀ (l : List α) (a d : α) (j : Nat), nthD (l ++ [a]) j d = if j < l.length then nthD l j d else if j = l.length then a else d
  | [], a, d, 0 => by simp [nthD]
  | [], a, d, j + 1 => by simp [nthD]
  | b :: l, a, d, 0 => by simp [nthD]
  | b :: l, a, d, j + 1 => by
    have := nthD_snoc l a d j
    simp only [List.cons_append, nthD, this, List.length_cons]
    by_cases h : j < l.length
    · simp [h]
    · simp [h]
set_option maxRecDepth 10000 in
theorem c_append (I : SI) (J : SJ) (b ev : Nat) (L : List Ob) (x w y : Nat) (h : BK I b ev L) (hl : L.length < 8) (d : Nat) : Tri d YX1_append 117 [vr 3 b, vi (nI x), vi (nI w), vi (nI y)] (S0 I J) (fun r σ => r = none ∧ ∃ I1, σ = S0 I1 J ∧ BK I1 b ev (L ++ [(x, w, y)]) ∧ frB b I I1) := by
  refine Tri.of (M := MX1_append) k_X1_append ⟨Nat.le_refl _, Nat.le_refl _⟩ (Nat.le_of_ble_eq_true rfl) ?_
  refine Sat.of k_X1_append [] 60 ?_
  obtain ⟨h1, h2, h3, h4, h5, h6⟩ := h
  refine ⟨fun c1 => ?_, fun c1 => ⟨?_, ?_, ?_, rfl, rfl, rfl, ?_⟩⟩
  · have c1 : nI 8 ≤ I 3 b 3 := c1
    rw [h2] at c1
    exact absurd ((nI_leI (by omega) (by omega)).mp c1) (by omega)
  · show vp_in (I 3 b 3) 8
    rw [h2]
    exact vp_in_nI hl (by omega)
  · show vp_in (uI I 4 b _ _ 3 b 3) 8
    rw [uI_t (by decide), h2]
    exact vp_in_nI hl (by omega)
  · show vp_in (uI (uI I 4 b _ _) 5 b _ _ 3 b 3) 8
    rw [uI_t (by decide), uI_t (by decide), h2]
    exact vp_in_nI hl (by omega)
  · have e0 : (nI L.length).toNatClampNeg = L.length := nI_clamp (by omega)
    refine ⟨uI (uI (uI (uI I 4 b L.length (nI x)) 5 b L.length (nI w)) 6 b L.length (nI y)) 3 b 3 (nI (L.length + 1)), ?_, ⟨?_, ?_, ?_, h4, h5, ?_⟩, ?_⟩
    · simp [S0, uI_t, h2, e0, nI_1]
    · rw [uI_j (by decide), uI_t (by decide), uI_t (by decide), uI_t (by decide)]; exact h1
    · rw [uI_at, List.length_append]; rfl
    · rw [List.length_append]; show L.length + 1 ≤ 8; omega
    · intro j hj
      rw [List.length_append] at hj
      have hj : j < L.length + 1 := hj
      rw [nthD_snoc]
      by_cases hj2 : j < L.length
      · rw [if_pos hj2]
        have h7 := h6 j hj2
        have hne : j ≠ L.length := by omega
        simp [uI_t, uI_j, hne, h7]
      · have hje : j = L.length := by omega
        subst hje
        simp [uI_t, uI_at]
    · exact frB.u (frB.u (frB.u (frB.u frB.refl (by decide) (by decide)) (by decide) (by decide)) (by decide) (by decide)) (by decide) (by decide)
