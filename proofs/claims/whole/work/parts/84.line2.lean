/-! How a line is made -/
theorem line_ids2 : ∀ o, o < 2 → nthD allIds (off 9 o + 6) (99, 0) = (11, o) ∧ nthD allIds (off 9 o + 6 + 1) (99, 0) = (12, o) ∧ nthD allIds (off 9 o + 6 + 1 + 1) (99, 0) = (13, o) ∧ nthD allIds (off 9 o + 6 + 1 + 1 + 1) (99, 0) = (15, o) ∧ nthD allIds (off 9 o + 6 + 1 + 1 + 1 + 1) (99, 0) = (14, o) ∧ off 9 o + 11 ≤ 117 ∧ off 9 o = off 8 o + 1 := by decide +kernel
theorem need_8 : ∀ j, j < 30 → need 8 j = true → j = 0 ∨ j = 1 ∨ j = 2 ∨ j = 3 ∨ j = 4 ∨ j = 5 ∨ j = 9 := by decide +kernel
theorem z5_ne2 {I : SI} {k a b : Nat} (h : ¬ (a = 10 ∧ 5 * k ≤ b ∧ b < 5 * k + 5)) : z5 I k a b = I a b := by
  funext c
  unfold z5
  rw [if_neg h]
theorem max_14 : ∀ o, o < 2 → (if (1 : Int32) < nI (tlen 14 o) then nI (tlen 14 o) else 1) = nI (tlen 14 o) := by decide +kernel
set_option maxRecDepth 10000 in
theorem i_line (I : SI) (J : SJ) (A : SA) (o n : Nat) (ho : o < 2) (hn : n = off 9 o) (d : Nat) (hd : 0 < d) : Tri d YX3_init (n + 11) [vr 8 o, vr 16 (2 * o + 1), vi (nI (tlen 14 o))] (I, J, n, A) (fun r σ => r = none ∧ ∃ I1 A1, σ = (I1, zJ J o, n + 11, A1) ∧ FO A1 8 o ∧ I1 8 = I 8 ∧ ∀ a b, ¬ (8 ≤ a ∧ a ≤ 15 ∧ (b = o ∨ (a = 10 ∧ 5 * o ≤ b ∧ b < 5 * o + 5))) → I1 a b = I a b ∧ A1 a b = A a b) := by
  obtain ⟨i1, i2, i3, i4, i5, i6, i7⟩ := line_ids2 o ho
  rw [← hn] at i1 i2 i3 i4 i5 i6
  refine Tri.of (M := MX3_init) k_X3_init ⟨(by show n ≤ n + 11; omega), i6⟩ (Nat.le_of_ble_eq_true rfl) ?_
  refine Sat.of k_X3_init [8] 60 ?_
  refine ⟨hd, Sat.multi ho hn (by omega) ?_⟩
  refine Sat.of k_X3_init [] 60 ?_
  refine ⟨⟨rfl, rfl⟩, 11, o, 5, i1, rfl, rfl, by omega, ⟨rfl, rfl⟩, 12, o, 5, i2, rfl, rfl, by omega, ⟨rfl, rfl⟩, 13, o, 10, i3, rfl, rfl, by omega, ⟨rfl, rfl⟩, 15, o, 10, i4, rfl, rfl, by omega, ⟨rfl, rfl⟩, ⟨rfl, rfl⟩, hd, o, i5, ?_, by omega, ⟨rfl, rfl⟩, rfl, rfl, rfl, _, _, rfl, FO.of (by decide) (fun j hj hq => ?_), ?_, fun a b q => ⟨?_, ?_⟩⟩
  · exact max_14 o ho
  · rcases need_8 j hj hq with z | z | z | z | z | z | z <;> subst z
    · exact uA_up uA_at
    · exact uA_up (uA_up (uA_up (uA_up (uA_up (uA_up uA_at)))))
    · exact uA_up (uA_up (uA_up (uA_up (uA_up uA_at))))
    · exact uA_up (uA_up (uA_up (uA_up uA_at)))
    · exact uA_up (uA_up (uA_up uA_at))
    · exact uA_at
    · exact uA_up (uA_up uA_at)
  · funext b
    rw [zI_ne2 (by omega), zI_ne2 (by omega), zI_ne2 (by omega), zI_ne2 (by omega), z5_ne2 (by omega)]
  · rw [zI_ne2 (by omega), zI_ne2 (by omega), zI_ne2 (by omega), zI_ne2 (by omega), z5_ne2 (by omega)]
  · rw [uA_n2 (by omega), uA_n2 (by omega), uA_n2 (by omega), uA_n2 (by omega), uA_n2 (by omega), uA_n2 (by omega), uA_n2 (by omega)]
