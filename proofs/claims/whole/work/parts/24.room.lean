/-! The line: leavesRoom -/
set_option maxRecDepth 10000 in
theorem c_leavesRoom (I : SI) (J : SJ) (m ev y p : Nat) (N S : NF) (l : HS) (hA : ALG I) (he : I 16 (2 * m + 1) 2 = nI ev) (h5 : ev ≤ 5) (hy : y < ev) (h : ROW I (5 * m + y) ev S) (hS : SG N ev l p S y) (hp : p = PRb 0 (y + 1)) (hc : ∀ x, x < y → I 13 m (PRb x y) = nI (l (PRb x y)) ∧ l (PRb x y) < 13) (d : Nat) (hd : 1 < d) : Tri d YX3_leavesRoom 117 [vr 8 m, vi (nI y)] (S0 I J) (fun r σ => ∃ b I1, r = some (vi (bi b)) ∧ σ = S0 I1 J ∧ (y + 1 < ev ∨ I1 = I) ∧ frR (5 * m + (y + 1)) I I1 ∧ (b = true → y + 1 < ev → ∃ S1, ROW I1 (5 * m + (y + 1)) ev S1 ∧ SG N ev l p S1 (y + 1)) ∧ (b = false → ∀ l1, GOOD N (PRb 0 ev) l1 → (∀ q, q < p → l1 q = l q) → False)) := by
  refine Tri.of (M := MX3_leavesRoom) k_X3_leavesRoom ⟨Nat.le_refl _, Nat.le_refl _⟩ (Nat.le_of_ble_eq_true rfl) ?_
  have ey : (nI y).toNatClampNeg = y := nI_clamp (by omega)
  have ey1 : (nI y + 1).toNatClampNeg = y + 1 := by rw [nI_1, nI_clamp (by omega)]
  have loop : ∀ (n z : Nat) (I1 : SI) (S1 : NF), y + 1 < ev → z + n = ev → y + 1 ≤ z → frR (5 * m + (y + 1)) I I1 → ROW I1 (5 * m + (y + 1)) ev S1 → SG N ev l p S1 (y + 1) → Sat none MX3_leavesRoom d 117 (fun r σ => ∃ b I1, r = some (vi (bi b)) ∧ σ = S0 I1 J ∧ (y + 1 < ev ∨ I1 = I) ∧ frR (5 * m + (y + 1)) I I1 ∧ (b = true → y + 1 < ev → ∃ S1, ROW I1 (5 * m + (y + 1)) ev S1 ∧ SG N ev l p S1 (y + 1)) ∧ (b = false → ∀ l1, GOOD N (PRb 0 ev) l1 → (∀ q, q < p → l1 q = l q) → False)) 46 [some (vr 8 m), some (vi (nI y)), some (vi (nI y + 1)), some (vr 10 (5 * m + (y + 1))), some (vi (nI z))] [] (S0 I1 J) := by
    intro n
    induction n with
    | zero =>
      intro z I1 S1 hye hz hyz f1 f2 f3
      have e : z = ev := by omega
      subst e
      refine Sat.of k_X3_leavesRoom [46] 60 ?_
      refine ⟨fun c => ⟨rfl, Or.inr rfl, true, I1, rfl, rfl, Or.inl (by omega), f1, fun _ _ => ⟨S1, f2, f3⟩, fun q => absurd q (by decide)⟩, fun c => ?_⟩
      have c : ¬ I1 16 (2 * m + 1) 2 ≤ nI z := c
      rw [f1 16 _ (by omega), he] at c
      exact absurd (nI_le (a := z) (b := z) (Nat.le_refl _) (by omega)) c
    | succ n ih =>
      intro z I1 S1 hye hz hyz f1 f2 f3
      obtain ⟨g1, g2⟩ := f3.nw h5 (y := y) (z := z) (by omega) (by omega) (by omega)
      refine Sat.of k_X3_leavesRoom [46] 60 ?_
      refine ⟨fun c => ?_, fun c => ⟨1, 117, hd, Nat.le_refl _, (c_narrowL I1 J m (5 * m + (y + 1)) ev y z S1 l (hA.frR f1) f2 (fun x hx => by rw [f1 13 m (by omega)]; exact hc x hx) h5 (by omega) (by omega) 1 (by decide)).mono ?_⟩⟩
      · have c : I1 16 (2 * m + 1) 2 ≤ nI z := c
        rw [f1 16 _ (by omega), he] at c
        exact absurd ((nI_leI (a := ev) (by omega) (by omega)).mp c) (by omega)
      · rintro r σ ⟨rfl, I2, rfl, k1, k2⟩
        refine ⟨fun c1 => (ih (z + 1) I2 (NW S1 l y z) hye (by omega) (by omega) (f1.tr k2) k1 g1).to (by rw [← nI_1]; rfl) rfl, fun c1 => ⟨rfl, Or.inl rfl, false, I2, rfl, rfl, Or.inl (by omega), f1.tr k2, fun q => absurd q (by decide), fun _ l1 q1 q2 => ?_⟩⟩
        have c1 : nI (nset S1 l y z y) = nI 0 := c1
        have hl := nset_lt (l := l) (f2 y z (by omega) (by omega)).2 (x := y)
        have e0 := (nI_eq (by omega) (by decide)).mp c1
        have := g2 l1 q1 q2
        rw [e0] at this
        simp at this
  refine Sat.of k_X3_leavesRoom [46] 60 ?_
  refine ⟨fun c => ⟨rfl, Or.inr rfl, true, I, rfl, rfl, Or.inr rfl, frR.rf, fun _ q => ?_, fun q => absurd q (by decide)⟩, fun c => ⟨fun c1 => ?_, fun c1 => ⟨rfl, Or.inr rfl, true, I, rfl, rfl, Or.inr rfl, frR.rf, fun _ q => ?_, fun q => absurd q (by decide)⟩⟩⟩
  · have c : I 16 (2 * m + 1) 2 ≤ nI y + 1 := c
    rw [he, nI_1] at c
    exact absurd ((nI_leI (by omega) (by omega)).mp c) (by omega)
  · have c : ¬ I 16 (2 * m + 1) 2 ≤ nI y + 1 := c
    rw [he, nI_1] at c
    have hlt : y + 1 < ev := by
      rw [nI_leI (by omega) (by omega)] at c
      omega
    refine ⟨?_, ?_, by omega, by decide, by decide, by decide, by decide, by decide, (loop (ev - (y + 1)) (y + 1) (cI I 10 (5 * m + y) 10 (5 * m + (y + 1)) 0 0 25) S hlt (by omega) (Nat.le_refl _) ?_ ?_ ⟨fun a b h1 h2 h3 => hS.1 a b h1 h2 (by omega), fun l1 q1 q2 a b h1 h2 h3 => hS.2 l1 q1 q2 a b h1 h2 (by omega)⟩).to ?_ ?_⟩
    · show vp_in (nI y + 1) 5
      rw [nI_1]
      exact vp_in_nI (by omega) (by decide)
    · exact vp_in_nI (by omega) (by decide)
    · intro t k hk
      rw [cI_ne (fun q => hk (by cases q; exact ⟨rfl, rfl⟩))]
    · intro a b hab hb
      rw [cI_self, pk_cpy_in (by omega) (by omega), Nat.sub_zero, Nat.zero_add]
      exact h a b hab hb
    · rw [← nI_1 y, ← ey1]
      rfl
    · show (cI I 10 (5 * m + (nI y).toNatClampNeg) 10 (5 * m + (nI y + 1).toNatClampNeg) 0 0 25, J, 117, aT) = _
      rw [ey, ey1]
  · have c1 : ¬ nI y + 1 < nI 5 := c1
    rw [nI_1] at c1
    exact absurd (nI_lt (a := y + 1) (b := 5) (by omega) (by decide)) c1
