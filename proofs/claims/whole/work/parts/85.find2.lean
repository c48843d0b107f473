/-! How the findings are made -/
theorem FO.up {A : SA} {t k a b c : Nat} (h : FO A t k) : FO (uA A a b c) t k := fun j hj => uA_up (h j hj)
theorem FO.z {A : SA} {t k a b : Nat} (h : FO A t k) (q : ¬ (t = a ∧ k = b)) : FO (zA A a b) t k := h.fr (zA_ne2 q)
theorem uA_id {A : SA} {t k j : Nat} (h : A t k j = true) : uA A t k j = A := by
  funext a b c
  unfold uA
  split
  · rename_i q
    rw [q.1, q.2.1, q.2.2, h]
  · rfl
theorem uA_same3 {A : SA} {t k i j l : Nat} (h1 : A t k i = true) (h2 : A t k j = true) (h3 : A t k l = true) : ∃ B, A = uA (uA (uA B t k l) t k j) t k i := ⟨A, by rw [uA_id h3, uA_id h2, uA_id h1]⟩
theorem uA_same2 {A : SA} {t k i j : Nat} (h1 : A t k i = true) (h2 : A t k j = true) : ∃ B, A = uA (uA B t k j) t k i := ⟨A, by rw [uA_id h2, uA_id h1]⟩
theorem zA_k {A : SA} {t k a b c : Nat} (h : A a b c = true) (q : ¬ (a = t ∧ b = k)) : zA A t k a b c = true := by rw [zA_ne2 q]; exact h
theorem need_7 : ∀ j, j < 30 → need 7 j = true → j = 0 ∨ j = 1 ∨ j = 2 ∨ j = 3 ∨ j = 4 ∨ j = 5 ∨ j = 6 ∨ j = 7 := by decide +kernel
/-- the findings made up to a step -/
def FQ (I : SI) (A : SA) (I1 : SI) (A1 : SA) : Prop := ALG I1 ∧ FO A1 0 0 ∧ A1 7 0 1 = true ∧ I1 7 0 = I 7 0 ∧ ∀ a b, ¬ (a ≤ 2 ∨ (7 ≤ a ∧ a ≤ 17)) → I1 a b = I a b ∧ A1 a b = A a b
theorem FQ.net {I I1 I2 : SI} {A A1 A2 : SA} {b : Nat} (h : FQ I A I1 A1) (q : frX 16 17 b b (zI I1 16 b) I2 (zA A1 16 b) A2) : FQ I A I2 A2 := by
  obtain ⟨h1, h2, h3, h4, h5⟩ := h
  have e : ∀ a c, ¬ (16 ≤ a ∧ a ≤ 17 ∧ c = b) → I2 a c = I1 a c ∧ A2 a c = A1 a c := fun a c z => by
    have := q a c (by omega)
    rw [zI_ne2 (by omega), zA_ne2 (by omega)] at this
    exact this
  refine ⟨⟨fun r hr a ha => by rw [(e 1 0 (by omega)).1]; exact h1.1 r hr a ha, fun r hr a ha => by rw [(e 2 0 (by omega)).1]; exact h1.2 r hr a ha⟩, h2.fr (e 0 0 (by omega)).2, by rw [(e 7 0 (by omega)).2]; exact h3, by rw [(e 7 0 (by omega)).1]; exact h4, fun a c z => ?_⟩
  rw [(e a c (by omega)).1, (e a c (by omega)).2]
  exact h5 a c z
theorem FQ.line {I I1 I2 : SI} {A A1 A2 : SA} {o : Nat} (h : FQ I A I1 A1) (q : ∀ a b, ¬ (8 ≤ a ∧ a ≤ 15 ∧ (b = o ∨ (a = 10 ∧ 5 * o ≤ b ∧ b < 5 * o + 5))) → I2 a b = zI I1 8 o a b ∧ A2 a b = zA A1 8 o a b) : FQ I A I2 A2 := by
  obtain ⟨h1, h2, h3, h4, h5⟩ := h
  have e : ∀ a c, ¬ (8 ≤ a ∧ a ≤ 15) → I2 a c = I1 a c ∧ A2 a c = A1 a c := fun a c z => by
    have := q a c (by omega)
    rw [zI_ne2 (by omega), zA_ne2 (by omega)] at this
    exact this
  refine ⟨⟨fun r hr a ha => by rw [(e 1 0 (by omega)).1]; exact h1.1 r hr a ha, fun r hr a ha => by rw [(e 2 0 (by omega)).1]; exact h1.2 r hr a ha⟩, h2.fr (e 0 0 (by omega)).2, by rw [(e 7 0 (by omega)).2]; exact h3, by rw [(e 7 0 (by omega)).1]; exact h4, fun a c z => ?_⟩
  rw [(e a c (by omega)).1, (e a c (by omega)).2]
  exact h5 a c z
theorem FQ.put {I I1 : SI} {A A1 : SA} {j : Nat} (h : FQ I A I1 A1) : FQ I A I1 (uA A1 7 0 j) := by
  obtain ⟨h1, h2, h3, h4, h5⟩ := h
  exact ⟨h1, h2.up, uA_up h3, h4, fun a b z => ⟨(h5 a b z).1, by rw [uA_n2 (by omega)]; exact (h5 a b z).2⟩⟩
set_option maxRecDepth 10000 in
theorem i_find (I : SI) (J : SJ) (A : SA) (d : Nat) (hd : 1 < d) : Tri d YX2_init 81 [vr 7 0, vr 3 1] (I, J, 46, A) (fun r σ => r = none ∧ ∃ I1 J1 A1, σ = (I1, J1, 81, A1) ∧ FQ I A I1 A1 ∧ FO A1 7 0 ∧ (∀ b, b < 4 → FO A1 16 b) ∧ ∀ b, b < 2 → FO A1 8 b) := by
  refine Tri.of (M := MX2_init) k_X2_init ⟨Nat.le_of_ble_eq_true rfl, Nat.le_of_ble_eq_true rfl⟩ (Nat.le_of_ble_eq_true rfl) ?_
  refine Sat.of k_X2_init [] 60 ?_
  refine ⟨by omega, 0, 0, rfl, rfl, by omega, 1, 49, hd, Nat.le_of_ble_eq_true rfl, (i_alg (zI I 0 0) J (zA A 0 0) 1 (by decide)).mono ?_⟩
  rintro r σ ⟨rfl, I1, A1, rfl, q1, q2, q3⟩
  have g1 : FQ I A I1 (uA A1 7 0 1) := ⟨q1, q2.up, uA_at, by rw [(q3 7 0 (by omega)).1, zI_ne2 (by omega)], fun a b z => by rw [uA_n2 (by omega), (q3 a b (by omega)).1, (q3 a b (by omega)).2, zI_ne2 (by omega), zA_ne2 (by omega)]; exact ⟨rfl, rfl⟩⟩
  refine ⟨⟨rfl, rfl⟩, 16, 0, rfl, rfl, by omega, 1, 51, hd, Nat.le_of_ble_eq_true rfl, (i_net (zI I1 16 0) J (zA (uA A1 7 0 1) 16 0) 0 49 (by decide) (by decide) 1 (by decide)).mono ?_⟩
  rintro r σ ⟨rfl, I2, A2, rfl, f0, q4⟩
  have g2 := (g1.net q4).put (j := 2)
  obtain ⟨B2, hB2⟩ := uA_same (g1.net q4).2.2.1
  subst hB2
  refine ⟨⟨rfl, rfl⟩, 16, 1, rfl, rfl, by omega, 1, 53, hd, Nat.le_of_ble_eq_true rfl, (i_net (zI I2 16 1) J (zA (uA (uA B2 7 0 1) 7 0 2) 16 1) 1 51 (by decide) (by decide) 1 (by decide)).mono ?_⟩
  rintro r σ ⟨rfl, I3, A3, rfl, f1, q5⟩
  have g3 := (g2.net q5).put (j := 3)
  have e5 : A3 7 0 = zA (uA (uA B2 7 0 1) 7 0 2) 16 1 7 0 := (q5 7 0 (by omega)).2
  have f0b : FO A3 16 0 := (f0.up.z (by omega)).fr (q5 16 0 (by omega)).2
  have p2 : A3 7 0 2 = true := by rw [e5]; exact zA_k uA_at (by omega)
  obtain ⟨B3, hB3⟩ := uA_same (g2.net q5).2.2.1
  subst hB3
  refine ⟨⟨rfl, rfl⟩, 16, 2, rfl, rfl, by omega, 1, 55, hd, Nat.le_of_ble_eq_true rfl, (i_net (zI I3 16 2) J (zA (uA (uA B3 7 0 1) 7 0 3) 16 2) 2 53 (by decide) (by decide) 1 (by decide)).mono ?_⟩
  rintro r σ ⟨rfl, I4, A4, rfl, f2, q6⟩
  have g4 := (g3.net q6).put (j := 4)
  have e6 : A4 7 0 = zA (uA (uA B3 7 0 1) 7 0 3) 16 2 7 0 := (q6 7 0 (by omega)).2
  have f0c : FO A4 16 0 := (f0b.up.z (by omega)).fr (q6 16 0 (by omega)).2
  have f1c : FO A4 16 1 := (f1.up.z (by omega)).fr (q6 16 1 (by omega)).2
  have p2c : A4 7 0 2 = true := by rw [e6]; exact zA_k (uA_up p2) (by omega)
  have p3c : A4 7 0 3 = true := by rw [e6]; exact zA_k uA_at (by omega)
  obtain ⟨B4, hB4⟩ := uA_same2 (g3.net q6).2.2.1 p3c
  subst hB4
  refine ⟨⟨rfl, rfl⟩, 8, 0, rfl, rfl, by omega, 1, 67, hd, Nat.le_of_ble_eq_true rfl, (i_line (zI I4 8 0) J (zA (uA (uA (uA B4 7 0 3) 7 0 1) 7 0 4) 8 0) 0 56 (by decide) (by decide) 1 (by decide)).mono ?_⟩
  rintro r σ ⟨rfl, I5, A5, rfl, l0, _, q7⟩
  have g5 := (g4.line q7).put (j := 5)
  have e7 : A5 7 0 = zA (uA (uA (uA B4 7 0 3) 7 0 1) 7 0 4) 8 0 7 0 := (q7 7 0 (by omega)).2
  have f0d : FO A5 16 0 := (f0c.up.z (by omega)).fr (q7 16 0 (by omega)).2
  have f1d : FO A5 16 1 := (f1c.up.z (by omega)).fr (q7 16 1 (by omega)).2
  have f2d : FO A5 16 2 := (f2.up.z (by omega)).fr (q7 16 2 (by omega)).2
  have p2d : A5 7 0 2 = true := by rw [e7]; exact zA_k (uA_up p2c) (by omega)
  have p3d : A5 7 0 3 = true := by rw [e7]; exact zA_k (uA_up p3c) (by omega)
  have p4d : A5 7 0 4 = true := by rw [e7]; exact zA_k uA_at (by omega)
  obtain ⟨B5, hB5⟩ := uA_same (g4.line q7).2.2.1
  subst hB5
  refine ⟨⟨rfl, rfl⟩, 16, 3, rfl, rfl, by omega, 1, 69, hd, Nat.le_of_ble_eq_true rfl, (i_net (zI I5 16 3) (zJ J 0) (zA (uA (uA B5 7 0 1) 7 0 5) 16 3) 3 67 (by decide) (by decide) 1 (by decide)).mono ?_⟩
  rintro r σ ⟨rfl, I6, A6, rfl, f3, q8⟩
  have g6 := (g5.net q8).put (j := 6)
  have e8 : A6 7 0 = zA (uA (uA B5 7 0 1) 7 0 5) 16 3 7 0 := (q8 7 0 (by omega)).2
  have f0e : FO A6 16 0 := (f0d.up.z (by omega)).fr (q8 16 0 (by omega)).2
  have f1e : FO A6 16 1 := (f1d.up.z (by omega)).fr (q8 16 1 (by omega)).2
  have f2e : FO A6 16 2 := (f2d.up.z (by omega)).fr (q8 16 2 (by omega)).2
  have l0e : FO A6 8 0 := (l0.up.z (by omega)).fr (q8 8 0 (by omega)).2
  have p2e : A6 7 0 2 = true := by rw [e8]; exact zA_k (uA_up p2d) (by omega)
  have p3e : A6 7 0 3 = true := by rw [e8]; exact zA_k (uA_up p3d) (by omega)
  have p4e : A6 7 0 4 = true := by rw [e8]; exact zA_k (uA_up p4d) (by omega)
  have p5e : A6 7 0 5 = true := by rw [e8]; exact zA_k uA_at (by omega)
  obtain ⟨B6, hB6⟩ := uA_same (g5.net q8).2.2.1
  subst hB6
  refine ⟨⟨rfl, rfl⟩, 8, 1, rfl, rfl, by omega, 1, 81, hd, Nat.le_of_ble_eq_true rfl, (i_line (zI I6 8 1) (zJ J 0) (zA (uA (uA B6 7 0 1) 7 0 6) 8 1) 1 70 (by decide) (by decide) 1 (by decide)).mono ?_⟩
  rintro r σ ⟨rfl, I7, A7, rfl, l1, _, q9⟩
  have g7 := ((g6.line q9).put (j := 7)).put (j := 0)
  have e9 : A7 7 0 = zA (uA (uA B6 7 0 1) 7 0 6) 8 1 7 0 := (q9 7 0 (by omega)).2
  have f0f : FO A7 16 0 := (f0e.up.z (by omega)).fr (q9 16 0 (by omega)).2
  have f1f : FO A7 16 1 := (f1e.up.z (by omega)).fr (q9 16 1 (by omega)).2
  have f2f : FO A7 16 2 := (f2e.up.z (by omega)).fr (q9 16 2 (by omega)).2
  have f3f : FO A7 16 3 := (f3.up.z (by omega)).fr (q9 16 3 (by omega)).2
  have l0f : FO A7 8 0 := (l0e.up.z (by omega)).fr (q9 8 0 (by omega)).2
  have p2f : A7 7 0 2 = true := by rw [e9]; exact zA_k (uA_up p2e) (by omega)
  have p3f : A7 7 0 3 = true := by rw [e9]; exact zA_k (uA_up p3e) (by omega)
  have p4f : A7 7 0 4 = true := by rw [e9]; exact zA_k (uA_up p4e) (by omega)
  have p5f : A7 7 0 5 = true := by rw [e9]; exact zA_k (uA_up p5e) (by omega)
  have p6f : A7 7 0 6 = true := by rw [e9]; exact zA_k uA_at (by omega)
  refine ⟨⟨rfl, rfl⟩, ⟨rfl, rfl⟩, rfl, rfl, rfl, _, _, _, rfl, g7, FO.of (by decide) (fun j hj hq => ?_), fun b hb => ?_, fun b hb => ?_⟩
  · rcases need_7 j hj hq with z | z | z | z | z | z | z | z <;> subst z
    · exact uA_at
    · exact g7.2.2.1
    · exact uA_up (uA_up p2f)
    · exact uA_up (uA_up p3f)
    · exact uA_up (uA_up p4f)
    · exact uA_up (uA_up p5f)
    · exact uA_up (uA_up p6f)
    · exact uA_up uA_at
  · rcases (show b = 0 ∨ b = 1 ∨ b = 2 ∨ b = 3 by omega) with z | z | z | z <;> subst z
    · exact f0f.up.up
    · exact f1f.up.up
    · exact f2f.up.up
    · exact f3f.up.up
  · rcases (show b = 0 ∨ b = 1 by omega) with z | z <;> subst z
    · exact l0f.up.up
    · exact l1.up.up
