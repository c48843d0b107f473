/-! The model: takes, turns, undo, keep, back -/
set_option maxRecDepth 10000 in
theorem m_takes (I : SI) (J : SJ) (s : SS) (k : Int32) (h : MR I s) (d : Nat) (hd : 1 < d) : Tri d YX9_takes 117 [vr 29 0, vi k] (S0 I J) (fun r σ => r = some (vi (oTakes s k).1) ∧ ∃ I1, σ = S0 I1 J ∧ MR I1 (oTakes s k).2 ∧ frK I I1) := by
  refine Tri.of (M := MX9_takes) k_X9_takes ⟨Nat.le_refl _, Nat.le_refl _⟩ (Nat.le_of_ble_eq_true rfl) ?_
  obtain ⟨ev, L, H, img, kp, S, n, t⟩ := s
  have hB : MB I ev L := h.1
  have hR := hB.2.2.2.1
  have h8 := hR.2.1
  refine Sat.of k_X9_takes [30] 60 ?_
  refine ⟨1, 117, by omega, Nat.le_refl _, (m_isObservation I J L k hR 1 (by decide)).mono ?_⟩
  rintro r σ ⟨rfl, rfl⟩
  refine ⟨fun c => ?_, fun c => ⟨rfl, trivial, ?_⟩⟩
  · have hk := bi_t c
    obtain ⟨j, j1, rfl⟩ := isIn_of hk (by omega)
    have ej : (nI j).toNatClampNeg = j := nI_clamp (by omega)
    have e : oTakes (ev, L, H, img, kp, S, n, t) (nI j) = (nI (L.length - 1), (ev, L.eraseIdx j, rem8 H L, img, kp, S, n, t)) := by
      simp only [oTakes]
      rw [if_pos hk, ej]
    rw [e]
    refine ⟨0, 117, by omega, Nat.le_refl _, (m_deed I J L H hR h.2.2.1 0).mono ?_⟩
    rintro v σ ⟨rfl, I1, rfl, q1, q2, q3⟩
    have e1 : I1 30 0 0 = nI L.length := by rw [q3.1 30 0 (by omega)]; exact hR.1
    have e30 : ∀ i, I1 30 0 i = I 30 0 i := fun i => by rw [q3.1 30 0 (by omega)]
    have hlen : (L.eraseIdx j).length = L.length - 1 := List.length_eraseIdx_of_lt j1
    have loop : ∀ (m i : Nat) (I2 : SI), i + m = 1 + 3 * (L.length - 1) → 1 + 3 * j ≤ i → (∀ a b, a ≠ 30 → I2 a b = I1 a b) → I2 30 0 0 = nI (L.length - 1) → (∀ z, 1 ≤ z → z < 1 + 3 * j → I2 30 0 z = I 30 0 z) → (∀ z, 1 + 3 * j ≤ z → z < i → I2 30 0 z = I 30 0 (z + 3)) → (∀ z, i ≤ z → I2 30 0 z = I 30 0 z) → Sat none MX9_takes d 117 (fun r σ => r = some (vi (nI (L.length - 1))) ∧ ∃ I1, σ = S0 I1 J ∧ MR I1 (ev, L.eraseIdx j, rem8 H L, img, kp, S, n, t) ∧ frK I I1) 30 [some (vr 29 0), some (vi (nI j)), some (vi (nI i))] [] (S0 I2 J) := by
      intro m
      have ec : ∀ I2 : SI, I2 30 0 0 = nI (L.length - 1) → (1 : Int32) + 3 * I2 30 0 (nI 0).toNatClampNeg = nI (1 + 3 * (L.length - 1)) := fun I2 g => by rw [nI_clamp (by decide), g, k3]
      induction m with
      | zero =>
        intro i I2 hi hji g1 g2 g3 g4 g5
        refine Sat.of k_X9_takes [30] 60 ?_
        refine ⟨vp_in_nI (n := 0) (by decide) (by decide), fun _ => ⟨vp_in_nI (n := 0) (by decide) (by decide), rfl, trivial, ?_, I2, rfl, h.chg (fun a b q => ?_) (fun z z1 z2 => ?_) ⟨?_, by omega, fun q hq => ?_⟩ (hB.2.2.2.2.1.erase j1) (q1.k ?_ ?_) (h.2.2.2.1.rem hB.2.2.2.2.1) ?_, fun a b q => ?_⟩, fun c => ?_⟩
        · show some (vi (I2 30 0 (nI 0).toNatClampNeg)) = _
          rw [nI_clamp (by decide), g2]
        · rw [g1 a b (by omega)]
          exact q3.1 a b (by omega)
        · rw [g1 29 0 (by decide)]
          exact q3.2 z z1 z2
        · rw [g2, hlen]
        · rw [hlen] at hq
          rw [nthD_erase]
          by_cases e1 : q < j
          · rw [if_pos e1, g3 _ (by omega) (by omega), g3 _ (by omega) (by omega), g3 _ (by omega) (by omega)]
            exact hR.2.2 q (by omega)
          · rw [if_neg e1, g4 _ (by omega) (by omega), g4 _ (by omega) (by omega), g4 _ (by omega) (by omega)]
            have := hR.2.2 (q + 1) (by omega)
            rw [show 0 + 1 + 3 * q + 3 = 0 + 1 + 3 * (q + 1) by omega, show 0 + 2 + 3 * q + 3 = 0 + 2 + 3 * (q + 1) by omega, show 0 + 3 + 3 * q + 3 = 0 + 3 + 3 * (q + 1) by omega]
            exact this
        · rw [g1 29 0 (by decide)]
        · exact g1 32 0 (by decide)
        · rw [g1 29 0 (by decide)]
          exact q2
        · rw [g1 a b (by omega)]
          exact q3.1 a b (by omega)
        · have c : ¬ (1 : Int32) + 3 * I2 30 0 (nI 0).toNatClampNeg ≤ nI i := c
          rw [ec I2 g2] at c
          exact absurd (nI_le (by omega) (by omega)) c
      | succ m ih =>
        intro i I2 hi hji g1 g2 g3 g4 g5
        have ei : (nI i).toNatClampNeg = i := nI_clamp (by omega)
        have ei3 : nI i + 3 = nI (i + 3) := by rw [show (3 : Int32) = nI 3 from rfl, nI_add]
        refine Sat.of k_X9_takes [30] 60 ?_
        refine ⟨vp_in_nI (n := 0) (by decide) (by decide), fun c => ?_, fun _ => ⟨?_, vp_in_nI (by omega) (by decide), ?_⟩⟩
        · have c : (1 : Int32) + 3 * I2 30 0 (nI 0).toNatClampNeg ≤ nI i := c
          rw [ec I2 g2, nI_leI (by omega) (by omega)] at c
          omega
        · show vp_in (nI i + 3) 25
          rw [ei3]
          exact vp_in_nI (by omega) (by decide)
        · refine (ih (i + 1) (uI I2 30 0 i (I2 30 0 (i + 3))) (by omega) (by omega) (fun a b q => by rw [uI_tt q]; exact g1 a b q) (by rw [uI_j (by omega)]; exact g2) (fun z z1 z2 => by rw [uI_j (by omega)]; exact g3 z z1 z2) (fun z z1 z2 => ?_) (fun z hz => by rw [uI_j (by omega)]; exact g5 z (by omega))).to (by rw [← nI_1]; rfl) (show (uI I2 30 0 (nI i).toNatClampNeg (I2 30 0 (nI i + 3).toNatClampNeg), J, 117, aT) = _ by rw [ei3, ei, nI_clamp (by omega)])
          by_cases ez : z = i
          · rw [ez, uI_at]
            exact g5 _ (by omega)
          · rw [uI_j ez]
            exact g4 z z1 (by omega)
    refine ⟨vp_in_nI (n := 0) (by decide) (by decide), vp_in_nI (n := 0) (by decide) (by decide), (loop (3 * (L.length - 1) - 3 * j) (1 + 3 * j) (uI I1 30 0 0 (nI (L.length - 1))) (by omega) (Nat.le_refl _) (fun a b q => uI_tt q) uI_at (fun z z1 z2 => by rw [uI_j (by omega)]; exact e30 z) (fun z z1 z2 => absurd z1 (by omega)) (fun z hz => by rw [uI_j (by omega)]; exact e30 z)).to (by rw [← k3]; rfl) ?_⟩
    show (uI I1 30 0 (nI 0).toNatClampNeg (I1 30 0 (nI 0).toNatClampNeg - 1), J, 117, aT) = _
    rw [nI_clamp (by decide), e1, nI_m1 (by omega)]
  · have e : oTakes (ev, L, H, img, kp, S, n, t) k = (-1, (ev, L, H, img, kp, S, n, t)) := by
      simp only [oTakes]
      rw [if_neg (by rw [bi_f c]; decide)]
    rw [e]
    exact ⟨rfl, I, rfl, h, frK.rf⟩
set_option maxRecDepth 10000 in
theorem m_turns (I : SI) (J : SJ) (s : SS) (k w : Int32) (h : MR I s) (d : Nat) (hd : 1 < d) : Tri d YX9_turns 117 [vr 29 0, vi k, vi w] (S0 I J) (fun r σ => r = some (vi (oTurns s k w).1) ∧ ∃ I1, σ = S0 I1 J ∧ MR I1 (oTurns s k w).2 ∧ frK I I1) := by
  refine Tri.of (M := MX9_turns) k_X9_turns ⟨Nat.le_refl _, Nat.le_refl _⟩ (Nat.le_of_ble_eq_true rfl) ?_
  obtain ⟨ev, L, H, img, kp, S, n, t⟩ := s
  have hB : MB I ev L := h.1
  have hR := hB.2.2.2.1
  have h8 := hR.2.1
  have bad : (isIn k L.length && isTld w) = false → some (vi (-1 : Int32)) = some (vi (oTurns (ev, L, H, img, kp, S, n, t) k w).1) ∧ ∃ I1, S0 I J = S0 I1 J ∧ MR I1 (oTurns (ev, L, H, img, kp, S, n, t) k w).2 ∧ frK I I1 := fun q => by
    have e : oTurns (ev, L, H, img, kp, S, n, t) k w = (-1, (ev, L, H, img, kp, S, n, t)) := by
      simp only [oTurns]
      rw [if_neg (by rw [q]; decide)]
    rw [e]
    exact ⟨rfl, I, rfl, h, frK.rf⟩
  refine Sat.of k_X9_turns [] 60 ?_
  refine ⟨1, 117, by omega, Nat.le_refl _, (m_isObservation I J L k hR 1 (by decide)).mono ?_⟩
  rintro r σ ⟨rfl, rfl⟩
  refine ⟨fun c => ⟨rfl, trivial, bad (by rw [bi_f c, Bool.false_and])⟩, fun c => ⟨0, 117, by omega, Nat.le_refl _, (m_in I J w (nI 1) (nI 8191) 0).mono ?_⟩⟩
  rintro v σ ⟨rfl, rfl⟩
  rw [inB_bet w 1 8191 (by decide) (by decide), ← isTld_bet]
  refine ⟨fun c1 => ?_, fun c1 => ⟨rfl, trivial, bad (by rw [bi_f c1, Bool.and_false])⟩⟩
  have hk := bi_t c
  have hr := bi_t c1
  obtain ⟨j, j1, rfl⟩ := isIn_of hk (by omega)
  obtain ⟨m, m0, m1, rfl⟩ := isTld_of hr
  have ej : (nI j).toNatClampNeg = j := nI_clamp (by omega)
  have em : (nI m).toNatClampNeg = m := nI_clamp (by omega)
  refine ⟨0, 117, by omega, Nat.le_refl _, (m_set I J L j hR j1 0).mono ?_⟩
  rintro v σ ⟨rfl, rfl⟩
  refine ⟨fun c2 => ?_, fun c2 => ⟨rfl, trivial, ?_⟩⟩
  · have c2 : ¬ nI (nthD L j (0, 0, 0)).2.1 = nI m := c2
    have e : oTurns (ev, L, H, img, kp, S, n, t) (nI j) (nI m) = (nI (nthD L j (0, 0, 0)).2.1, (ev, setO L j m, rem8 H L, img, kp, S, n, t)) := by
      simp only [oTurns]
      rw [if_pos (by rw [hk, hr]; rfl), ej, em, if_neg c2]
    rw [e]
    refine ⟨0, 117, by omega, Nat.le_refl _, (m_deed I J L H hR h.2.2.1 0).mono ?_⟩
    rintro v σ ⟨rfl, I1, rfl, q1, q2, q3⟩
    have ix : (1 : Int32) + 3 * nI j + 1 = nI (2 + 3 * j) := by rw [k3, nI_1, show 1 + 3 * j + 1 = 2 + 3 * j by omega]
    have hst : (uI I1 30 0 ((1 : Int32) + 3 * nI j + 1).toNatClampNeg (nI m), J, 117, aT) = S0 (uI I1 30 0 (2 + 3 * j) (nI m)) J := by rw [ix, nI_clamp (by omega)]
    have ff : ∀ a b, ¬ (a = 29 ∨ a = 30 ∨ a = 32) → uI I1 30 0 (2 + 3 * j) (nI m) a b = I a b := fun a b q => by rw [uI_tt (by omega)]; exact q3.1 a b (by omega)
    refine ⟨?_, rfl, trivial, rfl, uI I1 30 0 (2 + 3 * j) (nI m), hst, h.chg ff (fun z z1 z2 => ?_) ⟨?_, ?_, fun q hq => ?_⟩ (hB.2.2.2.2.1.set j1 m0 m1) (q1.k (uI_t (by decide)) (uI_tt (by decide))) (h.2.2.2.1.rem hB.2.2.2.2.1) ?_, fun a b q => ff a b (by omega)⟩
    · show vp_in (1 + 3 * nI j + 1) 25
      rw [ix]
      exact vp_in_nI (by omega) (by decide)
    · rw [uI_t (by decide)]
      exact q3.2 z z1 z2
    · unfold setO
      rw [uI_j (by omega), q3.1 30 0 (by omega), List.length_set]
      exact hR.1
    · unfold setO
      rw [List.length_set]
      exact h8
    · unfold setO at hq ⊢
      rw [List.length_set] at hq
      obtain ⟨z1, z2, z3⟩ := hR.2.2 q hq
      rw [nthD_set _ _ _ _ _ j1]
      by_cases e1 : q = j
      · subst e1
        rw [if_pos rfl, show 0 + 2 + 3 * q = 2 + 3 * q by omega, uI_at, uI_j (by omega), uI_j (by omega), q3.1 30 0 (by omega)]
        exact ⟨z1, rfl, z3⟩
      · rw [if_neg e1, uI_j (by omega), uI_j (by omega), uI_j (by omega), q3.1 30 0 (by omega)]
        exact ⟨z1, z2, z3⟩
    · rw [uI_t (by decide)]
      exact q2
  · have c2 : nI (nthD L j (0, 0, 0)).2.1 = nI m := c2
    have e : oTurns (ev, L, H, img, kp, S, n, t) (nI j) (nI m) = (-2, (ev, L, H, img, kp, S, n, t)) := by
      simp only [oTurns]
      rw [if_pos (by rw [hk, hr]; rfl), ej, if_pos c2]
    rw [e]
    exact ⟨rfl, I, rfl, h, frK.rf⟩
set_option maxRecDepth 10000 in
theorem m_undo (I : SI) (J : SJ) (s : SS) (h : MR I s) (d : Nat) : Tri d YX9_undo 117 [vr 29 0] (S0 I J) (fun r σ => r = some (vi (oUndo s).1) ∧ ∃ I1, σ = S0 I1 J ∧ MR I1 (oUndo s).2 ∧ frK I I1) := by
  refine Tri.of (M := MX9_undo) k_X9_undo ⟨Nat.le_refl _, Nat.le_refl _⟩ (Nat.le_of_ble_eq_true rfl) ?_
  obtain ⟨ev, L, H, img, kp, S, n, t⟩ := s
  obtain ⟨p1, p2, p3⟩ : MPT I H := h.2.2.1
  refine Sat.of k_X9_undo [22] 60 ?_
  refine ⟨fun c => ?_, fun c => ⟨rfl, trivial, ?_⟩⟩
  · have c : ¬ I 29 0 3 = nI 0 := c
    rw [p1] at c
    have hpos : 0 < H.length := by
      rcases Nat.eq_zero_or_pos H.length with e | e
      · exact absurd (by rw [e]) c
      · exact e
    obtain ⟨R, K, rfl⟩ := snoc_of H hpos
    have el : (R ++ [K]).length = R.length + 1 := by rw [List.length_append]; rfl
    have e : oUndo (ev, L, R ++ [K], img, kp, S, n, t) = (nI R.length, (ev, K, R, img, kp, S, n, t)) := by
      simp only [oUndo]
      rw [if_neg (by omega), el, Nat.add_sub_cancel, nthD_len, List.dropLast_concat]
    have hw : WFo ev K := by
      have := h.2.2.2.1 R.length (by omega)
      rw [nthD_len] at this
      exact this
    have hwh : WFH ev R := fun j hj => by
      have := h.2.2.2.1 j (by omega)
      rw [nthD_app hj] at this
      exact this
    have hK : RW I 32 (25 * R.length) K := by
      have := p3 R.length (by omega)
      rw [nthD_len] at this
      exact this
    rw [e]
    have loop : ∀ (m k : Nat) (I1 : SI), k + m = 25 → (∀ a b, ¬ (a = 29 ∨ a = 30) → I1 a b = I a b) → (∀ j, j ≠ 3 → I1 29 0 j = I 29 0 j) → I1 29 0 3 = nI R.length → (∀ i, i < k → I1 30 0 i = I 32 0 (25 * R.length + i)) → Sat none MX9_undo d 117 (fun r σ => r = some (vi (nI R.length)) ∧ ∃ I1, σ = S0 I1 J ∧ MR I1 (ev, K, R, img, kp, S, n, t) ∧ frK I I1) 22 [some (vr 29 0), some (vi (nI k))] [] (S0 I1 J) := by
      intro m
      induction m with
      | zero =>
        intro k I1 hk g1 g2 g3 g4
        have ek : k = 25 := by omega
        subst ek
        refine Sat.of k_X9_undo [22] 60 ?_
        refine ⟨fun _ => ⟨Or.inl rfl, rfl, trivial, ?_, uI I1 29 0 18 0, rfl, h.chg (fun a b q => ?_) (fun z z1 z2 => ?_) (hK.copy (fun c hc => ?_)) hw ⟨?_, by omega, fun j hj => ?_⟩ hwh uI_at, fun a b q => ?_⟩, fun c => absurd (nI_le (a := 25) (b := 25) (by omega) (by omega)) c⟩
        · show some (vi (uI I1 29 0 18 0 29 0 3)) = _
          rw [uI_j (by decide), g3]
        · rw [uI_tt (by omega)]
          exact g1 a b (by omega)
        · rw [uI_j z2]
          exact g2 z z1
        · rw [uI_t (by decide), Nat.zero_add]
          exact g4 c hc
        · rw [uI_j (by decide)]
          exact g3
        · have := p3 j (by omega)
          rw [nthD_app hj] at this
          exact this.k (by rw [uI_tt (by decide)]; exact g1 32 0 (by omega))
        · rw [uI_tt (by omega)]
          exact g1 a b (by omega)
      | succ m ih =>
        intro k I1 hk g1 g2 g3 g4
        have ek : (nI k).toNatClampNeg = k := nI_clamp (by omega)
        have ix : (25 : Int32) * I1 29 0 3 + nI k = nI (25 * R.length + k) := by rw [g3, ix25]
        refine Sat.of k_X9_undo [22] 60 ?_
        refine ⟨fun c => absurd ((nI_leI (a := 25) (by omega) (by omega)).mp c) (by omega), fun _ => ⟨?_, vp_in_nI (by omega) (by decide), ?_⟩⟩
        · show vp_in (25 * I1 29 0 3 + nI k) 200
          rw [ix]
          exact vp_in_nI (by omega) (by decide)
        · refine (ih (k + 1) (uI I1 30 0 k (I1 32 0 (25 * R.length + k))) (by omega) (fun a b q => by rw [uI_tt (by omega)]; exact g1 a b q) (fun j q => by rw [uI_t (by decide)]; exact g2 j q) (by rw [uI_t (by decide)]; exact g3) (fun i hi => ?_)).to (by rw [← nI_1]; rfl) (show (uI I1 30 0 (nI k).toNatClampNeg (I1 32 0 (25 * I1 29 0 3 + nI k).toNatClampNeg), J, 117, aT) = _ by rw [ix, ek, nI_clamp (by omega)])
          by_cases ei : i = k
          · rw [ei, uI_at, g1 32 0 (by omega)]
          · rw [uI_j ei]
            exact g4 i (by omega)
    refine (loop 25 0 (uI I 29 0 3 (nI R.length)) (by omega) (fun a b q => uI_tt (by omega)) (fun j q => uI_j q) uI_at (fun i hi => absurd hi (by omega))).to rfl ?_
    show (uI I 29 0 3 (I 29 0 3 - 1), J, 117, aT) = _
    rw [p1, el, nI_m1 (by omega), Nat.add_sub_cancel]
  · have c : I 29 0 3 = nI 0 := c
    rw [p1, nI_eq (by omega) (by decide)] at c
    have e : oUndo (ev, L, H, img, kp, S, n, t) = (-2, (ev, L, H, img, kp, S, n, t)) := by
      simp only [oUndo]
      rw [if_pos c]
    rw [e]
    exact ⟨rfl, I, rfl, h, frK.rf⟩
set_option maxRecDepth 10000 in
theorem m_keep (I : SI) (J : SJ) (s : SS) (i : Int32) (h : MR I s) (d : Nat) (hd : 0 < d) : Tri d YX9_keep 117 [vr 29 0, vi i] (S0 I J) (fun r σ => r = some (vi (oKeep s i).1) ∧ ∃ I1, σ = S0 I1 J ∧ MR I1 (oKeep s i).2 ∧ frK I I1) := by
  refine Tri.of (M := MX9_keep) k_X9_keep ⟨Nat.le_refl _, Nat.le_refl _⟩ (Nat.le_of_ble_eq_true rfl) ?_
  obtain ⟨ev, L, H, img, kp, S, n, t⟩ := s
  have hB : MB I ev L := h.1
  have hR := hB.2.2.2.1
  refine Sat.of k_X9_keep [13] 60 ?_
  refine ⟨0, 117, hd, Nat.le_refl _, (m_in I J i 0 (nI 1) 0).mono ?_⟩
  rintro r σ ⟨rfl, rfl⟩
  rw [inB_lit i 1 (by decide)]
  refine ⟨fun c => ?_, fun c => ⟨rfl, trivial, ?_⟩⟩
  · have hi := bi_t c
    obtain ⟨b, b1, rfl⟩ := isIn_of hi (by decide)
    have eb : (nI b).toNatClampNeg = b := nI_clamp (by omega)
    have e : oKeep (ev, L, H, img, kp, S, n, t) (nI b) = (nI L.length, (ev, L, H, putA img b L, putA kp b true, S, n, t)) := by
      simp only [oKeep]
      rw [if_pos hi, eb]
    rw [e]
    have loop : ∀ (m k : Nat) (I1 : SI), k + m = 25 → (∀ a b, a ≠ 33 → I1 a b = I a b) → (∀ i, i < k → I1 33 0 (25 * b + i) = I 30 0 i) → (∀ i, (i < 25 * b ∨ 25 * b + 25 ≤ i) → I1 33 0 i = I 33 0 i) → Sat none MX9_keep d 117 (fun r σ => r = some (vi (nI L.length)) ∧ ∃ I1, σ = S0 I1 J ∧ MR I1 (ev, L, H, putA img b L, putA kp b true, S, n, t) ∧ frK I I1) 13 [some (vr 29 0), some (vi (nI b)), some (vi (nI k))] [] (S0 I1 J) := by
      intro m
      induction m with
      | zero =>
        intro k I1 hk g1 g2 g3
        have ek : k = 25 := by omega
        subst ek
        refine Sat.of k_X9_keep [13] 60 ?_
        have hst : (uI I1 34 0 (nI b).toNatClampNeg 1, J, 117, aT) = S0 (uI I1 34 0 b 1) J := by rw [eb]
        refine ⟨fun _ => ⟨vp_in_nI (by omega) (by decide), Or.inr rfl, vp_in_nI (n := 0) (by decide) (by decide), rfl, trivial, ?_, uI I1 34 0 b 1, hst, ?_, fun a b q => ?_⟩, fun c => absurd (nI_le (a := 25) (b := 25) (by omega) (by omega)) c⟩
        · show some (vi (uI I1 34 0 (nI b).toNatClampNeg 1 30 0 (nI 0).toNatClampNeg)) = _
          rw [uI_t (by decide), nI_clamp (by decide), g1 30 0 (by decide), hR.1]
        · obtain ⟨h1, h2, h3, h4, h5, h6, h7, h8, h9⟩ := h
          have ff : ∀ a b, a ≠ 33 → a ≠ 34 → uI I1 34 0 b 1 a 0 = I a 0 := fun a b q1 q2 => by rw [uI_tt q2]; exact g1 a 0 q1
          have e29 : ∀ j, uI I1 34 0 b 1 29 0 j = I 29 0 j := fun j => by rw [uI_t (by decide), g1 29 0 (by decide)]
          refine ⟨h1.k2 (e29 6) (ff 30 b (by decide) (by decide)) (ff 38 b (by decide) (by decide)) (ff 39 b (by decide) (by decide)) (ff 40 b (by decide) (by decide)), h2.k2 (e29 18) (e29 19) (ff 43 b (by decide) (by decide)) (ff 44 b (by decide) (by decide)) (ff 45 b (by decide) (by decide)), h3.k (e29 3) (ff 32 b (by decide) (by decide)), h4, fun q hq => ?_, fun q hq hk => ?_, h7.k (e29 10) (ff 35 b (by decide) (by decide)) (ff 36 b (by decide) (by decide)) (ff 37 b (by decide) (by decide)), h8, h9.k (e29 22) (ff 46 b (by decide) (by decide))⟩
          · unfold putA
            by_cases e1 : q = b
            · subst e1
              rw [if_pos rfl, if_pos rfl, uI_at]
              refine ⟨rfl, fun _ => hR.copy (fun c hc => ?_)⟩
              rw [uI_t (by decide), g2 c hc, Nat.zero_add]
            · rw [if_neg e1, if_neg e1, uI_j e1, g1 34 0 (by decide)]
              refine ⟨(h5 q hq).1, fun z => ((h5 q hq).2 z).copy (fun c hc => ?_)⟩
              rw [uI_t (by decide)]
              exact g3 _ (by omega)
          · unfold putA at hk ⊢
            by_cases e1 : q = b
            · rw [if_pos e1]
              exact h1.2.2.2.2.1
            · rw [if_neg e1] at hk ⊢
              exact h6 q hq hk
        · rw [uI_tt (by omega)]
          exact g1 a b (by omega)
      | succ m ih =>
        intro k I1 hk g1 g2 g3
        have ek : (nI k).toNatClampNeg = k := nI_clamp (by omega)
        have ix := ix25 b k
        refine Sat.of k_X9_keep [13] 60 ?_
        refine ⟨fun c => absurd ((nI_leI (a := 25) (by omega) (by omega)).mp c) (by omega), fun _ => ⟨vp_in_nI (by omega) (by decide), ?_, ?_⟩⟩
        · show vp_in (25 * nI b + nI k) 50
          rw [ix]
          exact vp_in_nI (by omega) (by decide)
        · refine (ih (k + 1) (uI I1 33 0 (25 * b + k) (I1 30 0 k)) (by omega) (fun a b q => by rw [uI_tt q]; exact g1 a b q) (fun i hi => ?_) (fun i hi => by rw [uI_j (by omega)]; exact g3 i hi)).to (by rw [← nI_1]; rfl) (show (uI I1 33 0 (25 * nI b + nI k).toNatClampNeg (I1 30 0 (nI k).toNatClampNeg), J, 117, aT) = _ by rw [ix, ek, nI_clamp (by omega)])
          by_cases ei : i = k
          · rw [ei, uI_at, g1 30 0 (by decide)]
          · rw [uI_j (by omega)]
            exact g2 i (by omega)
    exact (loop 25 0 I (by omega) (fun _ _ _ => rfl) (fun i hi => absurd hi (by omega)) (fun _ _ => rfl)).to rfl rfl
  · have e : oKeep (ev, L, H, img, kp, S, n, t) i = (-1, (ev, L, H, img, kp, S, n, t)) := by
      simp only [oKeep]
      rw [if_neg (by rw [bi_f c]; decide)]
    rw [e]
    exact ⟨rfl, I, rfl, h, frK.rf⟩
set_option maxRecDepth 10000 in
theorem m_back (I : SI) (J : SJ) (s : SS) (i : Int32) (h : MR I s) (d : Nat) (hd : 0 < d) : Tri d YX9_back 117 [vr 29 0, vi i] (S0 I J) (fun r σ => r = some (vi (oBack s i).1) ∧ ∃ I1, σ = S0 I1 J ∧ MR I1 (oBack s i).2 ∧ frK I I1) := by
  refine Tri.of (M := MX9_back) k_X9_back ⟨Nat.le_refl _, Nat.le_refl _⟩ (Nat.le_of_ble_eq_true rfl) ?_
  obtain ⟨ev, L, H, img, kp, S, n, t⟩ := s
  refine Sat.of k_X9_back [25] 60 ?_
  refine ⟨0, 117, hd, Nat.le_refl _, (m_in I J i 0 (nI 1) 0).mono ?_⟩
  rintro r σ ⟨rfl, rfl⟩
  rw [inB_lit i 1 (by decide)]
  refine ⟨fun c => ?_, fun c => ⟨rfl, trivial, ?_⟩⟩
  · have hi := bi_t c
    obtain ⟨b, b1, rfl⟩ := isIn_of hi (by decide)
    have eb : (nI b).toNatClampNeg = b := nI_clamp (by omega)
    obtain ⟨z1, z2⟩ := h.2.2.2.2.1 b b1
    refine ⟨vp_in_nI (by omega) (by decide), fun c1 => ?_, fun c1 => ⟨rfl, trivial, ?_⟩⟩
    · have c1 : ¬ I 34 0 (nI b).toNatClampNeg = 0 := c1
      rw [eb, z1] at c1
      have hk := bi_t c1
      have hK := z2 hk
      have e : oBack (ev, L, H, img, kp, S, n, t) (nI b) = (nI (img b).length, (ev, img b, [], img, kp, S, n, t)) := by
        simp only [oBack]
        rw [if_pos hi, eb, if_pos hk]
      rw [e]
      have loop : ∀ (m k : Nat) (I1 : SI), k + m = 25 → (∀ a b, a ≠ 30 → I1 a b = I a b) → (∀ i, i < k → I1 30 0 i = I 33 0 (25 * b + i)) → Sat none MX9_back d 117 (fun r σ => r = some (vi (nI (img b).length)) ∧ ∃ I1, σ = S0 I1 J ∧ MR I1 (ev, img b, [], img, kp, S, n, t) ∧ frK I I1) 25 [some (vr 29 0), some (vi (nI b)), some (vi (nI k))] [] (S0 I1 J) := by
        intro m
        induction m with
        | zero =>
          intro k I1 hk2 g1 g2
          have ek : k = 25 := by omega
          subst ek
          refine Sat.of k_X9_back [25] 60 ?_
          have hRW : RW (uI (uI I1 29 0 3 0) 29 0 18 0) 30 0 (img b) := hK.copy (fun c hc => by rw [uI_t (by decide), uI_t (by decide), Nat.zero_add]; exact g2 c hc)
          refine ⟨fun _ => ⟨Or.inl rfl, vp_in_nI (n := 0) (by decide) (by decide), rfl, trivial, ?_, uI (uI I1 29 0 3 0) 29 0 18 0, rfl, h.chg (fun a b q => ?_) (fun z z1 z2 => ?_) hRW (h.2.2.2.2.2.1 b b1 hk) ⟨?_, by simp, fun j hj => absurd hj (by simp)⟩ (fun j hj => absurd hj (by simp)) uI_at, fun a b q => ?_⟩, fun c => absurd (nI_le (a := 25) (b := 25) (by omega) (by omega)) c⟩
          · show some (vi (uI (uI I1 29 0 3 0) 29 0 18 0 30 0 (nI 0).toNatClampNeg)) = _
            rw [nI_clamp (by decide), hRW.1]
          · rw [uI_tt (by omega), uI_tt (by omega)]
            exact g1 a b (by omega)
          · rw [uI_j z2, uI_j z1, g1 29 0 (by decide)]
          · rw [uI_j (by decide), uI_at]
            rfl
          · rw [uI_tt (by omega), uI_tt (by omega)]
            exact g1 a b (by omega)
        | succ m ih =>
          intro k I1 hk2 g1 g2
          have ek : (nI k).toNatClampNeg = k := nI_clamp (by omega)
          have ix := ix25 b k
          refine Sat.of k_X9_back [25] 60 ?_
          refine ⟨fun c => absurd ((nI_leI (a := 25) (by omega) (by omega)).mp c) (by omega), fun _ => ⟨?_, vp_in_nI (by omega) (by decide), ?_⟩⟩
          · show vp_in (25 * nI b + nI k) 50
            rw [ix]
            exact vp_in_nI (by omega) (by decide)
          · refine (ih (k + 1) (uI I1 30 0 k (I1 33 0 (25 * b + k))) (by omega) (fun a b q => by rw [uI_tt q]; exact g1 a b q) (fun i hi => ?_)).to (by rw [← nI_1]; rfl) (show (uI I1 30 0 (nI k).toNatClampNeg (I1 33 0 (25 * nI b + nI k).toNatClampNeg), J, 117, aT) = _ by rw [ix, ek, nI_clamp (by omega)])
            by_cases ei : i = k
            · rw [ei, uI_at, g1 33 0 (by decide)]
            · rw [uI_j ei]
              exact g2 i (by omega)
      exact (loop 25 0 I (by omega) (fun _ _ _ => rfl) (fun i hi => absurd hi (by omega))).to rfl rfl
    · have c1 : I 34 0 (nI b).toNatClampNeg = 0 := c1
      rw [eb, z1] at c1
      have e : oBack (ev, L, H, img, kp, S, n, t) (nI b) = (-2, (ev, L, H, img, kp, S, n, t)) := by
        simp only [oBack]
        rw [if_pos hi, eb, if_neg (by rw [bi_f c1]; decide)]
      rw [e]
      exact ⟨rfl, I, rfl, h, frK.rf⟩
  · have e : oBack (ev, L, H, img, kp, S, n, t) i = (-1, (ev, L, H, img, kp, S, n, t)) := by
      simp only [oBack]
      rw [if_neg (by rw [bi_f c]; decide)]
    rw [e]
    exact ⟨rfl, I, rfl, h, frK.rf⟩
