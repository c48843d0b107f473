/-! How the past is made -/
theorem need_18 : ∀ j, j < 30 → need 18 j = true → j = 0 := by decide +kernel
theorem need_19 : ∀ j, j < 30 → need 19 j = true → j < 8 := by decide +kernel
/-- the first i books of the past -/
def PP (I : SI) (A : SA) (i : Nat) (I1 : SI) (A1 : SA) : Prop := (∀ j, j < i → I1 19 0 j = nI (2 + j)) ∧ (∀ j, j < i → A1 19 0 j = true) ∧ A1 18 0 0 = true ∧ (∀ j, j < i → FO A1 3 (2 + j)) ∧ I1 18 0 = I 18 0 ∧ ∀ a b, ¬ ((a = 18 ∧ b = 0) ∨ (a = 19 ∧ b = 0) ∨ (3 ≤ a ∧ a ≤ 6 ∧ 2 ≤ b ∧ b ≤ 9)) → I1 a b = I a b ∧ A1 a b = A a b
theorem PP.step {I I1 I2 : SI} {A A1 A2 : SA} {i : Nat} (h : PP I A i I1 A1) (hi : i < 8) (hf : frX 3 6 (2 + i) (2 + i) (zI I1 3 (2 + i)) I2 (zA A1 3 (2 + i)) A2) (hF : FO A2 3 (2 + i)) : PP I A (i + 1) (uI I2 19 0 i (nI (2 + i))) (uA A2 19 0 i) := by
  obtain ⟨h1, h2, h3, h4, h5, h6⟩ := h
  have e : ∀ a b, ¬ (3 ≤ a ∧ a ≤ 6 ∧ b = 2 + i) → I2 a b = I1 a b ∧ A2 a b = A1 a b := fun a b q => by
    have := hf a b (by omega)
    rw [zI_ne2 (by omega), zA_ne2 (by omega)] at this
    exact this
  refine ⟨fun j hj => ?_, fun j hj => ?_, ?_, fun j hj => ?_, ?_, fun a b q => ⟨?_, ?_⟩⟩
  · by_cases z : j = i
    · rw [z, uI_at]
    · rw [uI_j z, (e 19 0 (by omega)).1]
      exact h1 j (by omega)
  · by_cases z : j = i
    · rw [z]; exact uA_at
    · exact uA_up (by rw [(e 19 0 (by omega)).2]; exact h2 j (by omega))
  · exact uA_up (by rw [(e 18 0 (by omega)).2]; exact h3)
  · by_cases z : j = i
    · rw [z]; exact hF.fr (uA_n2 (by omega))
    · exact (h4 j (by omega)).fr (by rw [uA_n2 (by omega), (e 3 (2 + j) (by omega)).2])
  · rw [uI_ne2 (by omega), (e 18 0 (by omega)).1, h5]
  · rw [uI_ne2 (by omega), (e a b (by omega)).1, (h6 a b q).1]
  · rw [uA_n2 (by omega), (e a b (by omega)).2, (h6 a b q).2]
set_option maxRecDepth 10000 in
theorem i_past (I : SI) (J : SJ) (A : SA) (d : Nat) (hd : 1 < d) : Tri d YX5_init 45 [vr 18 0] (I, J, 12, A) (fun r σ => r = none ∧ ∃ I1 A1, σ = (I1, J, 45, A1) ∧ PP I A 8 I1 A1) := by
  refine Tri.of (M := MX5_init) k_X5_init ⟨Nat.le_of_ble_eq_true rfl, Nat.le_of_ble_eq_true rfl⟩ (Nat.le_of_ble_eq_true rfl) ?_
  generalize hQ : (fun (r : Option AV) (σ : ST) => r = none ∧ ∃ I1 A1, σ = (I1, J, 45, A1) ∧ PP I A 8 I1 A1) = Q
  have s8 : ∀ I1 A1, PP I A 8 I1 A1 → Sat none MX5_init d 45 Q 15 [some (vr 18 0), some (vi (nI 8))] [] (I1, J, 45, A1) := fun I1 A1 h => by
    refine Sat.of k_X5_init [15] 60 ?_
    refine ⟨fun _ => ⟨rfl, rfl, ?_⟩, fun c => absurd (by decide) c⟩
    rw [← hQ]
    exact ⟨rfl, I1, A1, rfl, h⟩
  have s7 : ∀ I1 A1, PP I A 7 I1 A1 → Sat none MX5_init d 45 Q 15 [some (vr 18 0), some (vi (nI 7))] [] (I1, J, 41, A1) := fun I1 A1 h => by
    obtain ⟨B, hB⟩ := uA_same h.2.2.1
    have h0 := h
    rw [hB]
    refine Sat.of k_X5_init [15] 60 ?_
    refine ⟨fun c => absurd c (by decide), fun _ => ⟨3, 9, rfl, rfl, by omega, 1, 45, hd, Nat.le_of_ble_eq_true rfl, (i_book (zI I1 3 9) J (zA (uA B 18 0 0) 3 9) 9 41 (by decide) (by decide) 1 (by decide)).mono ?_⟩⟩
    rintro r σ ⟨rfl, I2, A2, rfl, q1, q2, q3, q4⟩
    rw [← hB] at q4
    exact ⟨vp_in_nI (by decide) (by decide), (s8 _ _ (h0.step (by decide) q4 q3)).to rfl rfl⟩
  have s6 : ∀ I1 A1, PP I A 6 I1 A1 → Sat none MX5_init d 45 Q 15 [some (vr 18 0), some (vi (nI 6))] [] (I1, J, 37, A1) := fun I1 A1 h => by
    obtain ⟨B, hB⟩ := uA_same h.2.2.1
    have h0 := h
    rw [hB]
    refine Sat.of k_X5_init [15] 60 ?_
    refine ⟨fun c => absurd c (by decide), fun _ => ⟨3, 8, rfl, rfl, by omega, 1, 41, hd, Nat.le_of_ble_eq_true rfl, (i_book (zI I1 3 8) J (zA (uA B 18 0 0) 3 8) 8 37 (by decide) (by decide) 1 (by decide)).mono ?_⟩⟩
    rintro r σ ⟨rfl, I2, A2, rfl, q1, q2, q3, q4⟩
    rw [← hB] at q4
    exact ⟨vp_in_nI (by decide) (by decide), (s7 _ _ (h0.step (by decide) q4 q3)).to rfl rfl⟩
  have s5 : ∀ I1 A1, PP I A 5 I1 A1 → Sat none MX5_init d 45 Q 15 [some (vr 18 0), some (vi (nI 5))] [] (I1, J, 33, A1) := fun I1 A1 h => by
    obtain ⟨B, hB⟩ := uA_same h.2.2.1
    have h0 := h
    rw [hB]
    refine Sat.of k_X5_init [15] 60 ?_
    refine ⟨fun c => absurd c (by decide), fun _ => ⟨3, 7, rfl, rfl, by omega, 1, 37, hd, Nat.le_of_ble_eq_true rfl, (i_book (zI I1 3 7) J (zA (uA B 18 0 0) 3 7) 7 33 (by decide) (by decide) 1 (by decide)).mono ?_⟩⟩
    rintro r σ ⟨rfl, I2, A2, rfl, q1, q2, q3, q4⟩
    rw [← hB] at q4
    exact ⟨vp_in_nI (by decide) (by decide), (s6 _ _ (h0.step (by decide) q4 q3)).to rfl rfl⟩
  have s4 : ∀ I1 A1, PP I A 4 I1 A1 → Sat none MX5_init d 45 Q 15 [some (vr 18 0), some (vi (nI 4))] [] (I1, J, 29, A1) := fun I1 A1 h => by
    obtain ⟨B, hB⟩ := uA_same h.2.2.1
    have h0 := h
    rw [hB]
    refine Sat.of k_X5_init [15] 60 ?_
    refine ⟨fun c => absurd c (by decide), fun _ => ⟨3, 6, rfl, rfl, by omega, 1, 33, hd, Nat.le_of_ble_eq_true rfl, (i_book (zI I1 3 6) J (zA (uA B 18 0 0) 3 6) 6 29 (by decide) (by decide) 1 (by decide)).mono ?_⟩⟩
    rintro r σ ⟨rfl, I2, A2, rfl, q1, q2, q3, q4⟩
    rw [← hB] at q4
    exact ⟨vp_in_nI (by decide) (by decide), (s5 _ _ (h0.step (by decide) q4 q3)).to rfl rfl⟩
  have s3 : ∀ I1 A1, PP I A 3 I1 A1 → Sat none MX5_init d 45 Q 15 [some (vr 18 0), some (vi (nI 3))] [] (I1, J, 25, A1) := fun I1 A1 h => by
    obtain ⟨B, hB⟩ := uA_same h.2.2.1
    have h0 := h
    rw [hB]
    refine Sat.of k_X5_init [15] 60 ?_
    refine ⟨fun c => absurd c (by decide), fun _ => ⟨3, 5, rfl, rfl, by omega, 1, 29, hd, Nat.le_of_ble_eq_true rfl, (i_book (zI I1 3 5) J (zA (uA B 18 0 0) 3 5) 5 25 (by decide) (by decide) 1 (by decide)).mono ?_⟩⟩
    rintro r σ ⟨rfl, I2, A2, rfl, q1, q2, q3, q4⟩
    rw [← hB] at q4
    exact ⟨vp_in_nI (by decide) (by decide), (s4 _ _ (h0.step (by decide) q4 q3)).to rfl rfl⟩
  have s2 : ∀ I1 A1, PP I A 2 I1 A1 → Sat none MX5_init d 45 Q 15 [some (vr 18 0), some (vi (nI 2))] [] (I1, J, 21, A1) := fun I1 A1 h => by
    obtain ⟨B, hB⟩ := uA_same h.2.2.1
    have h0 := h
    rw [hB]
    refine Sat.of k_X5_init [15] 60 ?_
    refine ⟨fun c => absurd c (by decide), fun _ => ⟨3, 4, rfl, rfl, by omega, 1, 25, hd, Nat.le_of_ble_eq_true rfl, (i_book (zI I1 3 4) J (zA (uA B 18 0 0) 3 4) 4 21 (by decide) (by decide) 1 (by decide)).mono ?_⟩⟩
    rintro r σ ⟨rfl, I2, A2, rfl, q1, q2, q3, q4⟩
    rw [← hB] at q4
    exact ⟨vp_in_nI (by decide) (by decide), (s3 _ _ (h0.step (by decide) q4 q3)).to rfl rfl⟩
  have s1 : ∀ I1 A1, PP I A 1 I1 A1 → Sat none MX5_init d 45 Q 15 [some (vr 18 0), some (vi (nI 1))] [] (I1, J, 17, A1) := fun I1 A1 h => by
    obtain ⟨B, hB⟩ := uA_same h.2.2.1
    have h0 := h
    rw [hB]
    refine Sat.of k_X5_init [15] 60 ?_
    refine ⟨fun c => absurd c (by decide), fun _ => ⟨3, 3, rfl, rfl, by omega, 1, 21, hd, Nat.le_of_ble_eq_true rfl, (i_book (zI I1 3 3) J (zA (uA B 18 0 0) 3 3) 3 17 (by decide) (by decide) 1 (by decide)).mono ?_⟩⟩
    rintro r σ ⟨rfl, I2, A2, rfl, q1, q2, q3, q4⟩
    rw [← hB] at q4
    exact ⟨vp_in_nI (by decide) (by decide), (s2 _ _ (h0.step (by decide) q4 q3)).to rfl rfl⟩
  have s0 : ∀ I1 A1, PP I A 0 I1 A1 → Sat none MX5_init d 45 Q 15 [some (vr 18 0), some (vi (nI 0))] [] (I1, J, 13, A1) := fun I1 A1 h => by
    obtain ⟨B, hB⟩ := uA_same h.2.2.1
    have h0 := h
    rw [hB]
    refine Sat.of k_X5_init [15] 60 ?_
    refine ⟨fun c => absurd c (by decide), fun _ => ⟨3, 2, rfl, rfl, by omega, 1, 17, hd, Nat.le_of_ble_eq_true rfl, (i_book (zI I1 3 2) J (zA (uA B 18 0 0) 3 2) 2 13 (by decide) (by decide) 1 (by decide)).mono ?_⟩⟩
    rintro r σ ⟨rfl, I2, A2, rfl, q1, q2, q3, q4⟩
    rw [← hB] at q4
    exact ⟨vp_in_nI (by decide) (by decide), (s1 _ _ (h0.step (by decide) q4 q3)).to rfl rfl⟩
  refine Sat.of k_X5_init [15] 60 ?_
  refine ⟨by omega, 19, 0, 8, 5, rfl, rfl, Or.inr rfl, rfl, by omega, ⟨rfl, rfl⟩, (s0 (zI I 19 0) (uA (zA A 19 0) 18 0 0) ⟨fun j hj => absurd hj (by omega), fun j hj => absurd hj (by omega), uA_at, fun j hj => absurd hj (by omega), zI_ne2 (by omega), fun a b q => ⟨zI_ne2 (by omega), by rw [uA_n2 (by omega), zA_ne2 (by omega)]⟩⟩).to rfl rfl⟩

