/-! How the class's things are made -/
theorem FO.mo {A A1 : SA} {t k : Nat} (h : FO A t k) (he : ∀ c, A t k c = true → A1 t k c = true) : FO A1 t k := fun j hj => he j (h j hj)
theorem need_25 : ∀ j, j < 30 → need 25 j = true → j = 0 ∨ j = 2 ∨ j = 3 ∨ j = 4 ∨ j = 5 ∨ j = 6 ∨ j = 7 ∨ j = 8 := by decide +kernel
theorem need_27 : ∀ j, j < 30 → need 27 j = true → j = 0 ∨ j = 1 := by decide +kernel
/-- all of the class's references are there -/
def FOC (A : SA) : Prop := FO A 0 0 ∧ FO A 7 0 ∧ FO A 8 0 ∧ FO A 8 1 ∧ FO A 18 0 ∧ FO A 19 0 ∧ FO A 20 0 ∧ FO A 21 0 ∧ FO A 25 0 ∧ FO A 27 0 ∧ (∀ b, b < 4 → FO A 16 b) ∧ ∀ b, b < 12 → FO A 3 b
/-- the class as it begins -/
def AGE (I1 : SI) : Prop := ALG I1 ∧ I1 3 1 4 = 3 ∧ I1 3 1 3 = 0 ∧ I1 7 0 8 = 0 ∧ I1 7 0 9 = 0 ∧ (∀ j, j < 8 → I1 19 0 j = nI (2 + j)) ∧ I1 18 0 1 = 0 ∧ I1 21 0 3 = 0 ∧ I1 28 0 0 = 0 ∧ I1 28 0 1 = 0
set_option maxRecDepth 10000 in
theorem i_ages (I : SI) (J : SJ) (A : SA) (d : Nat) (hd : 2 < d) : Tri d YX8_init 95 [vr 25 0] (I, J, 1, A) (fun r σ => r = none ∧ ∃ I1 J1 A1, σ = (I1, J1, 95, A1) ∧ AGE I1 ∧ I1 25 0 = I 25 0 ∧ FOC A1) := by
  refine Tri.of (M := MX8_init) k_X8_init ⟨Nat.le_of_ble_eq_true rfl, Nat.le_of_ble_eq_true rfl⟩ (Nat.le_of_ble_eq_true rfl) ?_
  refine Sat.of k_X8_init [] 60 ?_
  refine ⟨by omega, 26, 0, 160, rfl, rfl, rfl, by omega, ⟨rfl, rfl⟩, 20, 0, rfl, rfl, by omega, 2, 7, hd, Nat.le_of_ble_eq_true rfl, (i_reader (zI (zI I 26 0) 20 0) J (zA (uA A 25 0 0) 20 0) 2 (by decide)).mono ?_⟩
  rintro r σ ⟨rfl, I1, A1, rfl, m20, m30, q1⟩
  have e1 : I1 25 0 = I 25 0 := by rw [(q1 25 0 (by omega)).1, zI_ne2 (by omega), zI_ne2 (by omega)]
  have p0 : A1 25 0 0 = true := by rw [(q1 25 0 (by omega)).2]; exact zA_k uA_at (by omega)
  refine ⟨⟨rfl, rfl⟩, 3, 1, rfl, rfl, by omega, 2, 11, hd, Nat.le_of_ble_eq_true rfl, (i_book (zI I1 3 1) J (zA (uA A1 25 0 2) 3 1) 1 7 (by decide) (by decide) 2 (by decide)).mono ?_⟩
  rintro r σ ⟨rfl, I2, A2, rfl, b4, bj, m31, q2⟩
  have b3 : I2 3 1 3 = 0 := by rw [bj 3 (by decide), zI_at]
  have e2 : ∀ a b, ¬ (3 ≤ a ∧ a ≤ 6 ∧ b = 1) → I2 a b = I1 a b ∧ ∀ c, A1 a b c = true → A2 a b c = true := fun a b z => by
    rw [(q2 a b (by omega)).1, (q2 a b (by omega)).2, zI_ne2 (by omega), zA_ne2 (by omega)]
    exact ⟨rfl, fun c h => uA_up h⟩
  have p2 : A2 25 0 2 = true := by rw [(q2 25 0 (by omega)).2]; exact zA_k uA_at (by omega)
  refine ⟨⟨rfl, rfl⟩, 18, 0, rfl, rfl, by omega, 2, 45, hd, Nat.le_of_ble_eq_true rfl, (i_past (zI I2 18 0) J (zA (uA A2 25 0 3) 18 0) 2 (by decide)).mono ?_⟩
  rintro r σ ⟨rfl, I3, A3, rfl, h1, h2, h3, h4, h5, h6⟩
  have e3 : ∀ a b, ¬ ((a = 18 ∧ b = 0) ∨ (a = 19 ∧ b = 0) ∨ (3 ≤ a ∧ a ≤ 6 ∧ 2 ≤ b ∧ b ≤ 9)) → I3 a b = I2 a b ∧ ∀ c, A2 a b c = true → A3 a b c = true := fun a b z => by
    rw [(h6 a b z).1, (h6 a b z).2, zI_ne2 (by omega), zA_ne2 (by omega)]
    exact ⟨rfl, fun c h => uA_up h⟩
  have p3 : A3 25 0 3 = true := by rw [(h6 25 0 (by omega)).2]; exact zA_k uA_at (by omega)
  have pa : I3 18 0 1 = 0 := by rw [h5, zI_at]
  have m18 : FO A3 18 0 := FO.of (by decide) (fun j hj hq => by rw [need_18 j hj hq]; exact h3)
  have m19 : FO A3 19 0 := FO.of (by decide) (fun j hj hq => h2 j (need_19 j hj hq))
  obtain ⟨B3, hB3⟩ := uA_same p3
  have e3q := e3
  subst hB3
  refine ⟨⟨rfl, rfl⟩, 7, 0, rfl, rfl, by omega, 2, 81, hd, Nat.le_of_ble_eq_true rfl, (i_find (zI I3 7 0) J (zA (uA (uA B3 25 0 3) 25 0 4) 7 0) 2 (by decide)).mono ?_⟩
  rintro r σ ⟨rfl, I4, J4, A4, rfl, ⟨k1, k2, k3, k4, k5⟩, m7, m16, m8⟩
  have e4 : ∀ a b, ¬ (a ≤ 2 ∨ (7 ≤ a ∧ a ≤ 17)) → I4 a b = I3 a b ∧ ∀ c, uA B3 25 0 3 a b c = true → A4 a b c = true := fun a b z => by
    rw [(k5 a b z).1, (k5 a b z).2, zI_ne2 (by omega), zA_ne2 (by omega)]
    exact ⟨rfl, fun c h => uA_up h⟩
  have p4 : A4 25 0 4 = true := by rw [(k5 25 0 (by omega)).2]; exact zA_k uA_at (by omega)
  have s7 : I4 7 0 8 = 0 ∧ I4 7 0 9 = 0 := by rw [k4, zI_at, zI_at]; exact ⟨rfl, rfl⟩
  refine ⟨⟨rfl, rfl⟩, 21, 0, rfl, rfl, by omega, 2, 85, hd, Nat.le_of_ble_eq_true rfl, (i_seen (zI I4 21 0) J4 (zA (uA A4 25 0 5) 21 0) 2 (by decide)).mono ?_⟩
  rintro r σ ⟨rfl, I5, A5, rfl, m21, k6, q5⟩
  have e5 : ∀ a b, ¬ (21 ≤ a ∧ a ≤ 24) → I5 a b = I4 a b ∧ ∀ c, A4 a b c = true → A5 a b c = true := fun a b z => by
    rw [(q5 a b (by omega)).1, (q5 a b (by omega)).2, zI_ne2 (by omega), zA_ne2 (by omega)]
    exact ⟨rfl, fun c h => uA_up h⟩
  have p5 : A5 25 0 5 = true := by rw [(q5 25 0 (by omega)).2]; exact zA_k uA_at (by omega)
  have s21 : I5 21 0 3 = 0 := by rw [k6, zI_at]
  refine ⟨⟨rfl, rfl⟩, 27, 0, 2, 4, rfl, rfl, Or.inl rfl, rfl, by omega, 3, 10, rfl, rfl, by omega, 2, 90, hd, Nat.le_of_ble_eq_true rfl, (i_book (zI (zI I5 27 0) 3 10) J4 (zA (zA (uA A5 25 0 6) 27 0) 3 10) 10 86 (by decide) (by decide) 2 (by decide)).mono ?_⟩
  rintro r σ ⟨rfl, I6, A6, rfl, _, _, m310, q6⟩
  have e6 : ∀ a b, ¬ (a = 27 ∨ (3 ≤ a ∧ a ≤ 6 ∧ b = 10)) → I6 a b = I5 a b ∧ ∀ c, A5 a b c = true → A6 a b c = true := fun a b z => by
    rw [(q6 a b (by omega)).1, (q6 a b (by omega)).2, zI_ne2 (by omega), zA_ne2 (by omega), zI_ne2 (by omega), zA_ne2 (by omega)]
    exact ⟨rfl, fun c h => uA_up h⟩
  have p6 : A6 25 0 6 = true := by rw [(q6 25 0 (by omega)).2]; exact zA_k (zA_k uA_at (by omega)) (by omega)
  refine ⟨vp_in_nI (n := 0) (N := 2) (by decide) (by decide), rfl, 3, 11, rfl, rfl, by omega, 2, 94, hd, Nat.le_of_ble_eq_true rfl, (i_book (zI I6 3 11) J4 (zA (uA A6 27 0 0) 3 11) 11 90 (by decide) (by decide) 2 (by decide)).mono ?_⟩
  rintro r σ ⟨rfl, I7, A7, rfl, _, _, m311, q7⟩
  have e7 : ∀ a b, ¬ (3 ≤ a ∧ a ≤ 6 ∧ b = 11) → I7 a b = I6 a b ∧ ∀ c, A6 a b c = true → A7 a b c = true := fun a b z => by
    rw [(q7 a b (by omega)).1, (q7 a b (by omega)).2, zI_ne2 (by omega), zA_ne2 (by omega)]
    exact ⟨rfl, fun c h => uA_up h⟩
  have p27 : A7 27 0 0 = true := by rw [(q7 27 0 (by omega)).2]; exact zA_k uA_at (by omega)
  have e47 : ∀ a b, ¬ ((21 ≤ a ∧ a ≤ 24) ∨ a = 27 ∨ (3 ≤ a ∧ a ≤ 6 ∧ 10 ≤ b)) → I7 a b = I4 a b ∧ ∀ c, A4 a b c = true → A7 a b c = true := fun a b z => ⟨by rw [(e7 a b (by omega)).1, (e6 a b (by omega)).1, (e5 a b (by omega)).1], fun c h => (e7 a b (by omega)).2 c ((e6 a b (by omega)).2 c ((e5 a b (by omega)).2 c h))⟩
  have e37 : ∀ a b, ¬ (a ≤ 2 ∨ (7 ≤ a ∧ a ≤ 17) ∨ (21 ≤ a ∧ a ≤ 24) ∨ a = 27 ∨ (3 ≤ a ∧ a ≤ 6 ∧ 10 ≤ b)) → I7 a b = I3 a b ∧ ∀ c, uA B3 25 0 3 a b c = true → A7 a b c = true := fun a b z => ⟨by rw [(e47 a b (by omega)).1, (e4 a b (by omega)).1], fun c h => (e47 a b (by omega)).2 c ((e4 a b (by omega)).2 c h)⟩
  have e27 : ∀ a b, ¬ (a ≤ 2 ∨ (7 ≤ a ∧ a ≤ 19) ∨ (21 ≤ a ∧ a ≤ 24) ∨ a = 27 ∨ (3 ≤ a ∧ a ≤ 6 ∧ 2 ≤ b)) → I7 a b = I2 a b ∧ ∀ c, A2 a b c = true → A7 a b c = true := fun a b z => ⟨by rw [(e37 a b (by omega)).1, (e3 a b (by omega)).1], fun c h => (e37 a b (by omega)).2 c ((e3q a b (by omega)).2 c h)⟩
  have e17 : ∀ a b, ¬ (a ≤ 2 ∨ (7 ≤ a ∧ a ≤ 19) ∨ (21 ≤ a ∧ a ≤ 24) ∨ a = 27 ∨ (3 ≤ a ∧ a ≤ 6 ∧ 1 ≤ b)) → I7 a b = I1 a b ∧ ∀ c, A1 a b c = true → A7 a b c = true := fun a b z => ⟨by rw [(e27 a b (by omega)).1, (e2 a b (by omega)).1], fun c h => (e27 a b (by omega)).2 c ((e2 a b (by omega)).2 c h)⟩
  refine ⟨vp_in_nI (n := 1) (N := 2) (by decide) (by decide), rfl, ⟨rfl, rfl⟩, 28, 0, 2, rfl, rfl, rfl, by omega, ⟨rfl, rfl⟩, rfl, rfl, rfl, _, _, _, rfl, ⟨⟨fun r hr a ha => ?_, fun r hr a ha => ?_⟩, ?_, ?_, ?_, ?_, fun j hj => ?_, ?_, ?_, zI_at, zI_at⟩, ?_, ?_⟩
  · rw [zI_ne2 (by omega), (e47 1 0 (by omega)).1]
    exact k1.1 r hr a ha
  · rw [zI_ne2 (by omega), (e47 2 0 (by omega)).1]
    exact k1.2 r hr a ha
  · rw [zI_ne2 (by omega), (e27 3 1 (by omega)).1, b4]
  · rw [zI_ne2 (by omega), (e27 3 1 (by omega)).1, b3]
  · rw [zI_ne2 (by omega), (e47 7 0 (by omega)).1, s7.1]
  · rw [zI_ne2 (by omega), (e47 7 0 (by omega)).1, s7.2]
  · rw [zI_ne2 (by omega), (e37 19 0 (by omega)).1, h1 j hj]
  · rw [zI_ne2 (by omega), (e37 18 0 (by omega)).1, pa]
  · rw [zI_ne2 (by omega), (e7 21 0 (by omega)).1, (e6 21 0 (by omega)).1, s21]
  · rw [zI_ne2 (by omega), (e17 25 0 (by omega)).1, e1]
  · refine ⟨(k2.mo (e47 0 0 (by omega)).2).up.up.up, (m7.mo (e47 7 0 (by omega)).2).up.up.up, ((m8 0 (by decide)).mo (e47 8 0 (by omega)).2).up.up.up, ((m8 1 (by decide)).mo (e47 8 1 (by omega)).2).up.up.up, (m18.mo (e37 18 0 (by omega)).2).up.up.up, (m19.mo (e37 19 0 (by omega)).2).up.up.up, (m20.mo (e17 20 0 (by omega)).2).up.up.up, (m21.mo (fun c h => (e7 21 0 (by omega)).2 c ((e6 21 0 (by omega)).2 c h))).up.up.up, FO.of (by decide) (fun j hj hq => ?_), FO.of (by decide) (fun j hj hq => ?_), fun b hb => ((m16 b hb).mo (e47 16 b (by omega)).2).up.up.up, fun b hb => ?_⟩
    · rcases need_25 j hj hq with z | z | z | z | z | z | z | z <;> subst z
      · exact uA_up (uA_up (uA_up ((e17 25 0 (by omega)).2 0 p0)))
      · exact uA_up (uA_up (uA_up ((e27 25 0 (by omega)).2 2 p2)))
      · exact uA_up (uA_up (uA_up ((e37 25 0 (by omega)).2 3 p3)))
      · exact uA_up (uA_up (uA_up ((e47 25 0 (by omega)).2 4 p4)))
      · exact uA_up (uA_up (uA_up ((e7 25 0 (by omega)).2 5 ((e6 25 0 (by omega)).2 5 p5))))
      · exact uA_up (uA_up (uA_up ((e7 25 0 (by omega)).2 6 p6)))
      · exact uA_up uA_at
      · exact uA_at
    · rcases need_27 j hj hq with z | z <;> subst z
      · exact uA_up (uA_up (uA_up p27))
      · exact uA_up (uA_up uA_at)
    · by_cases z0 : b = 0
      · subst z0
        exact (m30.mo (e17 3 0 (by omega)).2).up.up.up
      · by_cases z1 : b = 1
        · subst z1
          exact (m31.mo (e27 3 1 (by omega)).2).up.up.up
        · by_cases z2 : b = 10
          · subst z2
            exact (m310.mo (e7 3 10 (by omega)).2).up.up.up
          · by_cases z3 : b = 11
            · subst z3
              exact m311.up.up.up
            · have := h4 (b - 2) (by omega)
              rw [show 2 + (b - 2) = b by omega] at this
              exact (this.mo (e37 3 b (by omega)).2).up.up.up
