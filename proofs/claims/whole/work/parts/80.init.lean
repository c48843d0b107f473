/-! How things are made: books, nets, what is seen, the reader -/
/-- the places of a thing that hold references -/
def need (t j : Nat) : Bool := match nthD tinfo t (99, 0) with
  | (0, ci) => Nat.beq (nthD (nthD ftab ci []) j (0, 0, 0)).1 2
  | (4, m) => Nat.blt j m
  | (5, m) => Nat.blt j m
  | _ => false
def FO (A : SA) (t k : Nat) : Prop := ∀ j, need t j = true → A t k j = true
def lenB (t : Nat) : Bool := match nthD tinfo t (99, 0) with
  | (0, ci) => Nat.ble (nthD ftab ci []).length 30
  | (4, m) => Nat.ble m 30
  | (5, m) => Nat.ble m 30
  | _ => true
theorem lenB_t : ∀ t, t < 51 → lenB t = true := by decide +kernel
theorem need_30 {t j : Nat} (ht : t < 51) (h : need t j = true) : j < 30 := by
  rcases Nat.lt_or_ge j 30 with z | z
  · exact z
  · exfalso
    have this := lenB_t t ht
    unfold lenB at this
    unfold need at h
    revert h this
    cases hq : nthD tinfo t (99, 0) with
    | mk a b =>
      intro h this
      split at h
      · rename_i ci hq2
        cases hq2
        have this : Nat.ble (nthD ftab b []).length 30 = true := this
        rw [nthD_none _ _ _ (Nat.le_trans (Nat.le_of_ble_eq_true this) z)] at h
        simp at h
      · rename_i m hq2
        cases hq2
        have h2 := Nat.le_of_ble_eq_true h
        have this : Nat.ble b 30 = true := this
        have := Nat.le_of_ble_eq_true this
        omega
      · rename_i m hq2
        cases hq2
        have h2 := Nat.le_of_ble_eq_true h
        have this : Nat.ble b 30 = true := this
        have := Nat.le_of_ble_eq_true this
        omega
      · cases h
theorem FO.of {A : SA} {t k : Nat} (ht : t < 51) (h : ∀ j, j < 30 → need t j = true → A t k j = true) : FO A t k := fun j hj => h j (need_30 ht hj) hj
theorem FO.fr {A A1 : SA} {t k : Nat} (h : FO A t k) (he : A1 t k = A t k) : FO A1 t k := fun j hj => by rw [he]; exact h j hj
theorem uA_at {A : SA} {t k j : Nat} : uA A t k j t k j = true := by simp [uA]
theorem uA_up {A : SA} {t k j a b c : Nat} (h : A a b c = true) : uA A t k j a b c = true := by
  unfold uA
  split
  · rfl
  · exact h
theorem uA_n2 {A : SA} {t k j a b : Nat} (h : ¬ (a = t ∧ b = k)) : uA A t k j a b = A a b := by
  funext c
  unfold uA
  rw [if_neg (fun q => h ⟨q.1, q.2.1⟩)]
theorem zI_ne2 {I : SI} {t k a b : Nat} (h : ¬ (a = t ∧ b = k)) : zI I t k a b = I a b := by
  funext c
  unfold zI
  rw [if_neg h]
theorem zI_at {I : SI} {t k c : Nat} : zI I t k t k c = 0 := by simp [zI]
theorem zA_ne2 {A : SA} {t k a b : Nat} (h : ¬ (a = t ∧ b = k)) : zA A t k a b = A a b := by
  funext c
  unfold zA
  rw [if_neg h]
theorem uI_ne2 {I : SI} {t k j a b : Nat} {x : Int32} (h : ¬ (a = t ∧ b = k)) : uI I t k j x a b = I a b := uI_ne (fun q => h (by cases q; exact ⟨rfl, rfl⟩))
theorem book_ids : ∀ b, b < 12 → nthD allIds (off 3 b) (99, 0) = (3, b) ∧ off 4 b = off 3 b + 1 ∧ nthD allIds (off 3 b + 1) (99, 0) = (4, b) ∧ nthD allIds (off 3 b + 1 + 1) (99, 0) = (5, b) ∧ nthD allIds (off 3 b + 1 + 1 + 1) (99, 0) = (6, b) ∧ off 3 b + 4 ≤ 117 := by decide +kernel
theorem need_3 : ∀ j, j < 30 → need 3 j = true → j = 0 ∨ j = 1 ∨ j = 2 := by decide +kernel
/-- nothing but a new book -/
def frX (t1 t2 k1 k2 : Nat) (I I1 : SI) (A A1 : SA) : Prop := ∀ a b, ¬ (t1 ≤ a ∧ a ≤ t2 ∧ k1 ≤ b ∧ b ≤ k2) → I1 a b = I a b ∧ A1 a b = A a b
set_option maxRecDepth 10000 in
theorem i_book (I : SI) (J : SJ) (A : SA) (b n : Nat) (hb : b < 12) (hn : n = off 3 b) (d : Nat) (hd : 0 < d) : Tri d YX1_init (n + 4) [vr 3 b] (I, J, n + 1, A) (fun r σ => r = none ∧ ∃ I1 A1, σ = (I1, J, n + 4, A1) ∧ I1 3 b 4 = 3 ∧ (∀ j, j ≠ 4 → I1 3 b j = I 3 b j) ∧ FO A1 3 b ∧ frX 3 6 b b I I1 A A1) := by
  obtain ⟨i1, i2, i3, i4, i5, i6⟩ := book_ids b hb
  rw [← hn] at i1 i3 i4 i5 i6
  refine Tri.of (M := MX1_init) k_X1_init ⟨(by show n + 1 ≤ n + 4; omega), i6⟩ (Nat.le_of_ble_eq_true rfl) ?_
  refine Sat.of k_X1_init [] 60 ?_
  refine ⟨hd, 4, b, 8, i3, rfl, rfl, by omega, ⟨rfl, rfl⟩, 5, b, 8, i4, rfl, rfl, by omega, ⟨rfl, rfl⟩, 6, b, 8, i5, rfl, rfl, by omega, ⟨rfl, rfl⟩, rfl, rfl, rfl, _, _, rfl, uI_at, fun j hj => ?_, FO.of (by decide) (fun j hj hq => ?_), fun a k q => ⟨?_, ?_⟩⟩
  · rw [uI_j hj, zI_ne2 (by omega), zI_ne2 (by omega), zI_ne2 (by omega)]
  · rcases need_3 j hj hq with z | z | z
    · subst z
      exact uA_up (uA_up uA_at)
    · subst z
      exact uA_up uA_at
    · subst z
      exact uA_at
  · rw [uI_ne2 (by omega), zI_ne2 (by omega), zI_ne2 (by omega), zI_ne2 (by omega)]
  · rw [uA_n2 (by omega), uA_n2 (by omega), uA_n2 (by omega)]
theorem net_ids : ∀ b, b < 4 → nthD allIds (off 16 b) (99, 0) = (16, b) ∧ nthD allIds (off 16 b + 1) (99, 0) = (17, b) ∧ off 16 b + 2 ≤ 117 := by decide +kernel
theorem need_16 : ∀ j, j < 30 → need 16 j = true → j = 0 ∨ j = 1 := by decide +kernel
set_option maxRecDepth 10000 in
theorem i_net (I : SI) (J : SJ) (A : SA) (b n : Nat) (hb : b < 4) (hn : n = off 16 b) (d : Nat) (hd : 0 < d) : Tri d YX4_init (n + 2) [vr 16 b, vr 0 0] (I, J, n + 1, A) (fun r σ => r = none ∧ ∃ I1 A1, σ = (I1, J, n + 2, A1) ∧ FO A1 16 b ∧ frX 16 17 b b I I1 A A1) := by
  obtain ⟨i1, i3, i6⟩ := net_ids b hb
  rw [← hn] at i1 i3 i6
  refine Tri.of (M := MX4_init) k_X4_init ⟨(by show n + 1 ≤ n + 2; omega), i6⟩ (Nat.le_of_ble_eq_true rfl) ?_
  refine Sat.of k_X4_init [] 60 ?_
  refine ⟨hd, 17, b, 25, i3, rfl, rfl, by omega, ⟨rfl, rfl⟩, ⟨rfl, rfl⟩, rfl, rfl, rfl, _, _, rfl, FO.of (by decide) (fun j hj hq => ?_), fun a k q => ⟨?_, ?_⟩⟩
  · rcases need_16 j hj hq with z | z
    · subst z
      exact uA_at
    · subst z
      exact uA_up uA_at
  · rw [zI_ne2 (by omega)]
  · rw [uA_n2 (by omega), uA_n2 (by omega)]
theorem need_21 : ∀ j, j < 30 → need 21 j = true → j = 0 ∨ j = 1 ∨ j = 2 := by decide +kernel
set_option maxRecDepth 10000 in
theorem i_seen (I : SI) (J : SJ) (A : SA) (d : Nat) (hd : 0 < d) : Tri d YX7_init 85 [vr 21 0] (I, J, 82, A) (fun r σ => r = none ∧ ∃ I1 A1, σ = (I1, J, 85, A1) ∧ FO A1 21 0 ∧ I1 21 0 = I 21 0 ∧ frX 21 24 0 0 I I1 A A1) := by
  refine Tri.of (M := MX7_init) k_X7_init ⟨Nat.le_of_ble_eq_true rfl, Nat.le_of_ble_eq_true rfl⟩ (Nat.le_of_ble_eq_true rfl) ?_
  refine Sat.of k_X7_init [] 60 ?_
  refine ⟨hd, 22, 0, 6, rfl, rfl, rfl, by omega, ⟨rfl, rfl⟩, 23, 0, 6, rfl, rfl, rfl, by omega, ⟨rfl, rfl⟩, 24, 0, 6, rfl, rfl, rfl, by omega, ⟨rfl, rfl⟩, rfl, rfl, rfl, _, _, rfl, FO.of (by decide) (fun j hj hq => ?_), ?_, fun a k q => ⟨?_, ?_⟩⟩
  · rcases need_21 j hj hq with z | z | z
    · subst z
      exact uA_up (uA_up uA_at)
    · subst z
      exact uA_up uA_at
    · subst z
      exact uA_at
  · rw [zI_ne2 (by omega), zI_ne2 (by omega), zI_ne2 (by omega)]
  · rw [zI_ne2 (by omega), zI_ne2 (by omega), zI_ne2 (by omega)]
  · rw [uA_n2 (by omega), uA_n2 (by omega), uA_n2 (by omega)]
theorem need_20 : ∀ j, j < 30 → need 20 j = true → j = 0 ∨ j = 1 := by decide +kernel
set_option maxRecDepth 10000 in
theorem i_reader (I : SI) (J : SJ) (A : SA) (d : Nat) (hd : 1 < d) : Tri d YX6_init 7 [vr 20 0, vr 26 0] (I, J, 3, A) (fun r σ => r = none ∧ ∃ I1 A1, σ = (I1, J, 7, A1) ∧ FO A1 20 0 ∧ FO A1 3 0 ∧ ∀ a b, ¬ (a = 20 ∨ (3 ≤ a ∧ a ≤ 6 ∧ b = 0)) → I1 a b = I a b ∧ A1 a b = A a b) := by
  refine Tri.of (M := MX6_init) k_X6_init ⟨Nat.le_of_ble_eq_true rfl, Nat.le_of_ble_eq_true rfl⟩ (Nat.le_of_ble_eq_true rfl) ?_
  refine Sat.of k_X6_init [] 60 ?_
  refine ⟨by omega, 3, 0, rfl, rfl, by omega, 1, 7, hd, Nat.le_refl _, (i_book (zI I 3 0) J (zA A 3 0) 0 3 (by decide) (by decide) 1 (by decide)).mono ?_⟩
  rintro r σ ⟨rfl, I1, A1, rfl, q1, q2, q3, q4⟩
  refine ⟨⟨rfl, rfl⟩, ⟨rfl, rfl⟩, rfl, rfl, rfl, _, _, rfl, FO.of (by decide) (fun j hj hq => ?_), (q3.fr ?_), fun a b q => ⟨?_, ?_⟩⟩
  · rcases need_20 j hj hq with z | z
    · subst z
      exact uA_up uA_at
    · subst z
      exact uA_at
  · rw [uA_n2 (by omega), uA_n2 (by omega)]
  · rw [(q4 a b (by omega)).1, zI_ne2 (by omega)]
  · rw [uA_n2 (by omega), uA_n2 (by omega), (q4 a b (by omega)).2, zA_ne2 (by omega)]
