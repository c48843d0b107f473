/-! Book: loops -/
theorem nI_m1 {n : Nat} (h : 0 < n) : nI n - 1 = nI (n - 1) := by
  obtain ⟨m, rfl⟩ : ∃ m, n = m + 1 := ⟨n - 1, by omega⟩
  rw [nI_pred]
  rfl
set_option maxRecDepth 10000 in
theorem c_copyFrom (I : SI) (J : SJ) (b o ev : Nat) (L : List Ob) (h : BK I o ev L) (hne : o ≠ b) (d : Nat) : Tri d YX1_copyFrom 117 [vr 3 b, vr 3 o] (S0 I J) (fun r σ => r = none ∧ ∃ I1, σ = S0 I1 J ∧ BK I1 b ev L ∧ frB b I I1) := by
  refine Tri.of (M := MX1_copyFrom) k_X1_copyFrom ⟨Nat.le_refl _, Nat.le_refl _⟩ (Nat.le_of_ble_eq_true rfl) ?_
  obtain ⟨h1, h2, h3, h4, h5, h6⟩ := h
  have loop : ∀ (n i : Nat) (I1 : SI), i + n = L.length → frB b I I1 → I1 3 b 4 = nI ev → I1 3 b 3 = nI L.length → (∀ j, j < i → I1 4 b j = nI (nthD L j (0, 0, 0)).1 ∧ I1 5 b j = nI (nthD L j (0, 0, 0)).2.1 ∧ I1 6 b j = nI (nthD L j (0, 0, 0)).2.2) →
      Sat none MX1_copyFrom d 117 (fun r σ => r = none ∧ ∃ I1, σ = S0 I1 J ∧ BK I1 b ev L ∧ frB b I I1) 18 [some (vr 3 b), some (vr 3 o), some (vi (nI i))] [] (S0 I1 J) := by
    intro n
    induction n with
    | zero =>
      intro i I1 hi hf g1 g2 g3
      refine Sat.of k_X1_copyFrom [18] 60 ?_
      refine ⟨fun c => ⟨rfl, rfl, rfl, I1, rfl, ⟨g1, g2, h3, h4, h5, fun j hj => g3 j (by omega)⟩, hf⟩, fun c => ?_⟩
      have c : ¬ I1 3 b 3 ≤ nI i := c
      rw [g2] at c
      exact absurd (nI_le (by omega) (by omega)) c
    | succ n ih =>
      intro i I1 hi hf g1 g2 g3
      have hv : vp_in (nI i) 8 := vp_in_nI (by omega) (by omega)
      have e0 : (nI i).toNatClampNeg = i := nI_clamp (by omega)
      have f4 : I1 4 o = I 4 o := hf 4 o (by omega)
      have f5 : I1 5 o = I 5 o := hf 5 o (by omega)
      have f6 : I1 6 o = I 6 o := hf 6 o (by omega)
      obtain ⟨q1, q2, q3⟩ := h6 i (by omega)
      refine Sat.of k_X1_copyFrom [18] 60 ?_
      refine ⟨fun c => ?_, fun c => ⟨hv, hv, hv, hv, hv, hv, ?_⟩⟩
      · have c : I1 3 b 3 ≤ nI i := c
        rw [g2] at c
        exact absurd ((nI_leI (by omega) (by omega)).mp c) (by omega)
      · have h9 := ih (i + 1) (uI (uI (uI I1 4 b i (I1 4 o i)) 5 b i (I1 5 o i)) 6 b i (I1 6 o i)) (by omega) (((hf.u (by decide) (by decide)).u (by decide) (by decide)).u (by decide) (by decide)) (by simp [uI_t, g1]) (by simp [uI_t, g2]) (fun j hj => by
          by_cases hj2 : j = i
          · subst hj2
            simp [uI_t, uI_at, f4, f5, f6, q1, q2, q3]
          · have := g3 j (by omega)
            simp [uI_t, uI_j, hj2, this])
        rw [← nI_1 i] at h9
        have e1 : uI (uI (uI I1 4 b (nI i).toNatClampNeg (I1 4 o (nI i).toNatClampNeg)) 5 b (nI i).toNatClampNeg (uI I1 4 b (nI i).toNatClampNeg (I1 4 o (nI i).toNatClampNeg) 5 o (nI i).toNatClampNeg)) 6 b (nI i).toNatClampNeg (uI (uI I1 4 b (nI i).toNatClampNeg (I1 4 o (nI i).toNatClampNeg)) 5 b (nI i).toNatClampNeg (uI I1 4 b (nI i).toNatClampNeg (I1 4 o (nI i).toNatClampNeg) 5 o (nI i).toNatClampNeg) 6 o (nI i).toNatClampNeg) = uI (uI (uI I1 4 b i (I1 4 o i)) 5 b i (I1 5 o i)) 6 b i (I1 6 o i) := by
          simp [uI_t, e0]
        rw [← e1] at h9
        exact h9
  refine Sat.of k_X1_copyFrom [18] 60 ?_
  have h9 := loop L.length 0 (uI (uI I 3 b 4 (nI ev)) 3 b 3 (nI L.length)) (by omega) ((frB.refl.u (by decide) (by decide)).u (by decide) (by decide)) (by simp [uI_j, uI_at]) (by simp [uI_at]) (fun j hj => absurd hj (by omega))
  have e1 : uI (uI I 3 b 4 (I 3 o 4)) 3 b 3 (uI I 3 b 4 (I 3 o 4) 3 o 3) = uI (uI I 3 b 4 (nI ev)) 3 b 3 (nI L.length) := by
    rw [uI_k hne, h1, h2]
  rw [← e1] at h9
  exact h9
theorem nthD_erase {α : Type} : ∀ (l : List α) (k j : Nat) (d : α), nthD (l.eraseIdx k) j d = if j < k then nthD l j d else nthD l (j + 1) d
  | [], k, j, d => by simp [nthD]
  | a :: l, 0, j, d => by simp [nthD]
  | a :: l, k + 1, 0, d => by simp [nthD]
  | a :: l, k + 1, j + 1, d => by
    have := nthD_erase l k j d
    simp only [List.eraseIdx_cons_succ, nthD, this]
    by_cases h : j < k <;> simp [h]
set_option maxRecDepth 10000 in
theorem c_remove (I : SI) (J : SJ) (b ev k : Nat) (L : List Ob) (h : BK I b ev L) (hk : k < L.length) (d : Nat) (hd : 0 < d) : Tri d YX1_remove 117 [vr 3 b, vi (nI k)] (S0 I J) (fun r σ => r = none ∧ ∃ I1, σ = S0 I1 J ∧ BK I1 b ev (L.eraseIdx k) ∧ frB b I I1) := by
  refine Tri.of (M := MX1_remove) k_X1_remove ⟨Nat.le_refl _, Nat.le_refl _⟩ (Nat.le_of_ble_eq_true rfl) ?_
  obtain ⟨h1, h2, h3, h4, h5, h6⟩ := id h
  have hlen : (L.eraseIdx k).length = L.length - 1 := List.length_eraseIdx_of_lt hk
  have loop : ∀ (n i : Nat) (I1 : SI), i + n = L.length - 1 → k ≤ i → frB b I I1 → I1 3 b 4 = nI ev → I1 3 b 3 = nI (L.length - 1) → (∀ j, j < i → I1 4 b j = nI (nthD (L.eraseIdx k) j (0, 0, 0)).1 ∧ I1 5 b j = nI (nthD (L.eraseIdx k) j (0, 0, 0)).2.1 ∧ I1 6 b j = nI (nthD (L.eraseIdx k) j (0, 0, 0)).2.2) → (∀ j, i ≤ j → I1 4 b j = I 4 b j ∧ I1 5 b j = I 5 b j ∧ I1 6 b j = I 6 b j) →
      Sat none MX1_remove d 117 (fun r σ => r = none ∧ ∃ I1, σ = S0 I1 J ∧ BK I1 b ev (L.eraseIdx k) ∧ frB b I I1) 20 [some (vr 3 b), some (vi (nI k)), some (vi (nI i))] [] (S0 I1 J) := by
    intro n
    induction n with
    | zero =>
      intro i I1 hi hki hf g1 g2 g3 g4
      refine Sat.of k_X1_remove [20] 60 ?_
      refine ⟨fun c => ⟨rfl, rfl, rfl, I1, rfl, ⟨g1, by rw [g2, hlen], by omega, h4, h5, fun j hj => g3 j (by omega)⟩, hf⟩, fun c => ?_⟩
      have c : ¬ I1 3 b 3 ≤ nI i := c
      rw [g2] at c
      exact absurd (nI_le (by omega) (by omega)) c
    | succ n ih =>
      intro i I1 hi hki hf g1 g2 g3 g4
      have hv : vp_in (nI i) 8 := vp_in_nI (by omega) (by omega)
      have hv1 : vp_in (nI i + 1) 8 := by rw [nI_1]; exact vp_in_nI (by omega) (by omega)
      have e0 : (nI i).toNatClampNeg = i := nI_clamp (by omega)
      have e1 : (nI i + 1).toNatClampNeg = i + 1 := by rw [nI_1]; exact nI_clamp (by omega)
      obtain ⟨q1, q2, q3⟩ := h6 (i + 1) (by omega)
      obtain ⟨p1, p2, p3⟩ := g4 (i + 1) (by omega)
      refine Sat.of k_X1_remove [20] 60 ?_
      refine ⟨fun c => ?_, fun c => ⟨hv1, hv, hv1, hv, hv1, hv, ?_⟩⟩
      · have c : I1 3 b 3 ≤ nI i := c
        rw [g2] at c
        exact absurd ((nI_leI (by omega) (by omega)).mp c) (by omega)
      · have h9 := ih (i + 1) (uI (uI (uI I1 4 b i (I1 4 b (i + 1))) 5 b i (I1 5 b (i + 1))) 6 b i (I1 6 b (i + 1))) (by omega) (by omega) (((hf.u (by decide) (by decide)).u (by decide) (by decide)).u (by decide) (by decide)) (by simp [uI_t, g1]) (by simp [uI_t, g2]) (fun j hj => by
          by_cases hj2 : j = i
          · subst hj2
            rw [nthD_erase, if_neg (by omega)]
            simp [uI_t, uI_at, p1, p2, p3, q1, q2, q3]
          · have := g3 j (by omega)
            simp [uI_t, uI_j, hj2, this]) (fun j hj => by
          have hj2 : j ≠ i := by omega
          have := g4 j (by omega)
          simp [uI_t, uI_j, hj2, this])
        rw [← nI_1 i] at h9
        have e2 : uI (uI (uI I1 4 b (nI i).toNatClampNeg (I1 4 b (nI i + 1).toNatClampNeg)) 5 b (nI i).toNatClampNeg (uI I1 4 b (nI i).toNatClampNeg (I1 4 b (nI i + 1).toNatClampNeg) 5 b (nI i + 1).toNatClampNeg)) 6 b (nI i).toNatClampNeg (uI (uI I1 4 b (nI i).toNatClampNeg (I1 4 b (nI i + 1).toNatClampNeg)) 5 b (nI i).toNatClampNeg (uI I1 4 b (nI i).toNatClampNeg (I1 4 b (nI i + 1).toNatClampNeg) 5 b (nI i + 1).toNatClampNeg) 6 b (nI i + 1).toNatClampNeg) = uI (uI (uI I1 4 b i (I1 4 b (i + 1))) 5 b i (I1 5 b (i + 1))) 6 b i (I1 6 b (i + 1)) := by
          simp [uI_t, e0, e1]
        rw [← e2] at h9
        exact h9
  refine Sat.of k_X1_remove [20] 60 ?_
  refine ⟨0, 117, hd, Nat.le_refl _, (c_isObservation I J b ev L (nI k) h 0).mono ?_⟩
  rintro r σ ⟨rfl, rfl⟩
  refine ⟨fun c => ?_, fun c => ?_⟩
  · rw [isIn_nI hk (by omega)] at c
    exact absurd c (by decide)
  · have h9 := loop (L.length - 1 - k) k (uI I 3 b 3 (nI (L.length - 1))) (by omega) (Nat.le_refl _) (frB.refl.u (by decide) (by decide)) (by simp [uI_j, h1]) (by simp [uI_at]) (fun j hj => by
      rw [nthD_erase, if_pos hj]
      have := h6 j (by omega)
      simp [uI_t, this]) (fun j _ => by simp [uI_t])
    have e1 : uI I 3 b 3 (I 3 b 3 - 1) = uI I 3 b 3 (nI (L.length - 1)) := by
      rw [h2, nI_m1 (by omega)]
    rw [← e1] at h9
    exact h9
