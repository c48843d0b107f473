/-! Net: narrow, spread, close -/
theorem pr_tab : ∀ hi, hi < 5 → ∀ lo, lo < hi → nI hi * (nI hi - 1) / 2 + nI lo = nI (PRb lo hi) := by decide +kernel
theorem c_pairOf (I : SI) (J : SJ) (lo hi : Nat) (h : lo < hi) (h5 : hi < 5) (d : Nat) : Tri d YX8_pairOf 117 [vi (nI lo), vi (nI hi)] (S0 I J) (fun r σ => σ = S0 I J ∧ r = some (vi (nI (PRb lo hi)))) := by
  refine Tri.of (M := MX8_pairOf) k_X8_pairOf ⟨Nat.le_refl _, Nat.le_refl _⟩ (Nat.le_of_ble_eq_true rfl) ?_
  refine Sat.of k_X8_pairOf [] 60 ?_
  refine ⟨by decide, rfl, trivial, rfl, ?_⟩
  show some (vi (nI hi * (nI hi - 1) / 2 + nI lo)) = _
  rw [pr_tab hi h5 lo h]
theorem prs_tab : ∀ hi, hi < 6 → nI hi * (nI hi - 1) / 2 = nI (PRb 0 hi) := by decide +kernel
theorem c_pairsOf (I : SI) (J : SJ) (hi : Nat) (h5 : hi < 6) (d : Nat) : Tri d YX8_pairsOf 117 [vi (nI hi)] (S0 I J) (fun r σ => σ = S0 I J ∧ r = some (vi (nI (PRb 0 hi)))) := by
  refine Tri.of (M := MX8_pairsOf) k_X8_pairsOf ⟨Nat.le_refl _, Nat.le_refl _⟩ (Nat.le_of_ble_eq_true rfl) ?_
  refine Sat.of k_X8_pairsOf [] 60 ?_
  refine ⟨by decide, rfl, trivial, rfl, ?_⟩
  show some (vi (nI hi * (nI hi - 1) / 2)) = _
  rw [prs_tab hi h5]
theorem mm_tab : ∀ x, x < 5 → ∀ z, z < 5 → (if nI z < nI x then nI z else nI x) = nI (min x z) ∧ (if nI x < nI z then nI z else nI x) = nI (max x z) := by decide +kernel
theorem pr_mm {x z : Nat} (h : x ≠ z) : PRb (min x z) (max x z) = prU x z := by
  unfold prU
  split
  · rw [Nat.min_eq_left (by omega), Nat.max_eq_right (by omega)]
  · rw [Nat.min_eq_right (by omega), Nat.max_eq_left (by omega)]
set_option maxRecDepth 10000 in
theorem c_narrowNet (I : SI) (J : SJ) (n ev x y z : Nat) (N : NF) (hA : ALG I) (h : NT I n ev N false) (hs : SYM ev N) (hn : NZ ev N) (hx : x < ev) (hy : y < ev) (hz : z < ev) (hxz : x ≠ z) (d : Nat) (hd : 0 < d) : Tri d YX4_narrow 117 [vr 16 n, vi (nI x), vi (nI y), vi (nI z)] (S0 I J) (fun r σ => r = some (vi (nI (if has N x y z = N x z then 0 else 2 ^ prU x z))) ∧ ∃ I1, σ = S0 I1 J ∧ NT I1 n ev (stp N x y z) (decide (has N x y z = 0)) ∧ frN n I I1) := by
  refine Tri.of (M := MX4_narrow) k_X4_narrow ⟨Nat.le_refl _, Nat.le_refl _⟩ (Nat.le_of_ble_eq_true rfl) ?_
  have h3 := h.2.2.1
  have h4 := h.2.2.2.1
  have same : has N x y z = N x z → NT I n ev (stp N x y z) (decide (has N x y z = 0)) := fun e => by
    rw [decide_eq_false (by rw [e]; exact hn x z hx hz)]
    exact h.congr (fun a b _ _ => stp_id hs hx hz e a b)
  refine Sat.of k_X4_narrow [] 120 ?_
  refine ⟨0, 117, hd, Nat.le_refl _, (c_at I J n ev y z N false h hy hz 0).mono ?_⟩
  rintro r σ ⟨rfl, rfl⟩
  refine ⟨fun c => ?_, fun c => ?_⟩
  · refine ⟨0, 117, hd, Nat.le_refl _, (c_at I J n ev x z N false h hx hz 0).mono ?_⟩
    rintro r σ ⟨rfl, rfl⟩
    refine ⟨0, 117, hd, Nat.le_refl _, (c_at I J n ev x y N false h hx hy 0).mono ?_⟩
    rintro r σ ⟨rfl, rfl⟩
    refine ⟨0, 117, hd, Nat.le_refl _, (c_at I J n ev y z N false h hy hz 0).mono ?_⟩
    rintro r σ ⟨rfl, rfl⟩
    refine ⟨0, 117, hd, Nat.le_refl _, (c_compose I J (N x y) (N y z) hA (hs.1 x y hx hy).2 (hs.1 y z hy hz).2 0).mono ?_⟩
    rintro r σ ⟨rfl, rfl⟩
    have eh : nI (N x z) &&& nI (cmps (N x y) (N y z)) = nI (has N x y z) := nx_an _ _
    have hl := has_lt hs (y := y) hx hz
    have hl1 := (hs.1 x z hx hz).2
    refine ⟨fun c1 => ?_, fun c1 => ?_⟩
    · have c1 : ¬ nI (N x z) &&& nI (cmps (N x y) (N y z)) = nI (N x z) := c1
      rw [eh] at c1
      have hne : has N x y z ≠ N x z := fun e => c1 (by rw [e])
      have e0 : (nI x * 5 + nI z).toNatClampNeg = 5 * x + z := by rw [ix5, nI_clamp (by omega)]
      have e1 : (nI z * 5 + nI x).toNatClampNeg = 5 * z + x := by rw [ix5, nI_clamp (by omega)]
      have hA1 : ALG (uI I 17 n (5 * x + z) (nI (has N x y z))) := hA.fr (frN.rf.u (Or.inr rfl))
      have hN := h.put hx hz hl
      have hfr : frN n I (uI (uI I 17 n (5 * x + z) (nI (has N x y z))) 17 n (5 * z + x) (nI (trn (has N x y z)))) := (frN.rf.u (Or.inr rfl)).u (Or.inr rfl)
      have tail : ∀ b : Bool, b = decide (has N x y z = 0) → ∀ I2 : SI, I2 = uI (uI (uI I 17 n (5 * x + z) (nI (has N x y z))) 17 n (5 * z + x) (nI (trn (has N x y z)))) 16 n 3 (bi b) → NT I2 n ev (stp N x y z) (decide (has N x y z = 0)) ∧ frN n I I2 := by
        rintro b rfl I2 rfl
        exact ⟨hN.bar, hfr.u (Or.inl rfl)⟩
      refine ⟨?_, 0, 117, hd, Nat.le_refl _, (c_turn (uI I 17 n (5 * x + z) (nI (has N x y z))) J (has N x y z) hA1 hl 0).to ?_ ?_ ?_⟩
      · show vp_in (nI x * 5 + nI z) 25
        rw [ix5]
        exact vp_in_nI (by omega) (by omega)
      · show [vr 0 0, vi (nI (N x z) &&& nI (cmps (N x y) (N y z)))] = _
        rw [eh]
      · show (uI I 17 n (nI x * 5 + nI z).toNatClampNeg (nI (N x z) &&& nI (cmps (N x y) (N y z))), J, 117, aT) = _
        rw [e0, eh]
      · rintro r σ ⟨rfl, rfl⟩
        refine ⟨?_, ?_⟩
        · show vp_in (nI z * 5 + nI x) 25
          rw [ix5]
          exact vp_in_nI (by omega) (by omega)
        have em := mm_tab x (by omega) z (by omega)
        have hpl := prU_lt (a := x) (b := z) (by omega) (by omega) hxz
        refine ⟨fun c2 => ⟨Or.inl rfl, hd, hd, 0, 117, hd, Nat.le_refl _, (c_pairOf (uI (uI (uI I 17 n (5 * x + z) (nI (has N x y z))) 17 n (5 * z + x) (nI (trn (has N x y z)))) 16 n 3 0) J (min x z) (max x z) (by omega) (by omega) 0).to ?_ ?_ ?_⟩, fun c2 => ⟨Or.inr rfl, hd, hd, 0, 117, hd, Nat.le_refl _, (c_pairOf (uI (uI (uI I 17 n (5 * x + z) (nI (has N x y z))) 17 n (5 * z + x) (nI (trn (has N x y z)))) 16 n 3 1) J (min x z) (max x z) (by omega) (by omega) 0).to ?_ ?_ ?_⟩⟩
        · show [vi (if nI z < nI x then nI z else nI x), vi (if nI x < nI z then nI z else nI x)] = _
          rw [em.1, em.2]
        · show (uI (uI (uI I 17 n (5 * x + z) (nI (has N x y z))) 17 n (nI z * 5 + nI x).toNatClampNeg (nI (trn (has N x y z)))) 16 n 3 0, J, 117, aT) = _
          rw [e1]
        · rintro r σ ⟨rfl, rfl⟩
          refine ⟨rfl, trivial, ?_, _, rfl, tail false ?_ _ rfl⟩
          · rw [if_neg hne]
            show some (vi ((1 : Int32) <<< (nI (PRb (min x z) (max x z)) &&& 31))) = _
            rw [pr_mm hxz, nx_shl (by omega)]
          · have c2 : ¬ nI (N x z) &&& nI (cmps (N x y) (N y z)) = nI 0 := c2
            rw [eh] at c2
            exact (decide_eq_false (fun e => c2 (by rw [e]))).symm
        · show [vi (if nI z < nI x then nI z else nI x), vi (if nI x < nI z then nI z else nI x)] = _
          rw [em.1, em.2]
        · show (uI (uI (uI I 17 n (5 * x + z) (nI (has N x y z))) 17 n (nI z * 5 + nI x).toNatClampNeg (nI (trn (has N x y z)))) 16 n 3 1, J, 117, aT) = _
          rw [e1]
        · rintro r σ ⟨rfl, rfl⟩
          refine ⟨rfl, trivial, ?_, _, rfl, tail true ?_ _ rfl⟩
          · rw [if_neg hne]
            show some (vi ((1 : Int32) <<< (nI (PRb (min x z) (max x z)) &&& 31))) = _
            rw [pr_mm hxz, nx_shl (by omega)]
          · have c2 : nI (N x z) &&& nI (cmps (N x y) (N y z)) = nI 0 := c2
            rw [eh] at c2
            exact (decide_eq_true ((nI_eq (by omega) (by omega)).mp c2)).symm
    · have c1 : nI (N x z) &&& nI (cmps (N x y) (N y z)) = nI (N x z) := c1
      rw [eh] at c1
      have heq : has N x y z = N x z := (nI_eq (by omega) (by omega)).mp c1
      exact ⟨rfl, trivial, by rw [if_pos heq]; rfl, I, rfl, same heq, frN.rf⟩
  · have c : nI (N y z) = nI 8191 := c
    have e : N y z = 8191 := (nI_eq (by have := (hs.1 y z hy hz).2; omega) (by decide)).mp c
    have heq := has_id hs hn hx hy hz (Or.inl e)
    exact ⟨rfl, trivial, by rw [if_pos heq]; rfl, I, rfl, same heq, frN.rf⟩
