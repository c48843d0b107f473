/-! The line: find -/
def sols (ev : Nat) (N : NF) : List HS := ext N (PRb 0 ev) 0 h00
/-- the line m has what find has found -/
def FND (I : SI) (J : SJ) (m ev w : Nat) (N : NF) : Prop := LST I J m ev ((sols ev N).take w) ∧ I 8 m 8 = bi (decide ((sols ev N).length < w))
set_option maxRecDepth 10000 in
theorem c_find (I : SI) (J : SJ) (m ev most : Nat) (N : NF) (bar : Bool) (hA : ALG I) (h : NT I (2 * m + 1) ev N bar) (h1 : 1 ≤ most) (h3 : most < 2 ^ 31) (d : Nat) (hd : 18 < d) : Tri d YX3_find 117 [vr 8 m, vi (nI most)] (S0 I J) (fun r σ => ∃ I1 J1, r = some (vi (nI (min (sols ev N).length (min most (tlen 14 m))))) ∧ σ = S0 I1 J1 ∧ FND I1 J1 m ev (min most (tlen 14 m)) N ∧ frL m I I1 ∧ ∀ k, k ≠ m → J1 k = J k) := by
  refine Tri.of (M := MX3_find) k_X3_find ⟨Nat.le_refl _, Nat.le_refl _⟩ (Nat.le_of_ble_eq_true rfl) ?_
  have t300 := tlen_14 m
  obtain ⟨n1, n2, n3, n4, n5⟩ := h
  have p10 := PRb0_le ev (by omega)
  generalize hw : min most (tlen 14 m) = w
  have em : (if nI (tlen 14 m) < nI most then nI (tlen 14 m) else nI most) = nI w := by rw [mnI (by omega) (by omega), hw]
  generalize hI1 : cI (uI (uI I 8 m 6 0) 8 m 7 (nI w)) 17 (2 * m + 1) 10 (5 * m) 0 0 25 = I1
  have f1 : ∀ t k, ¬ (t = 8 ∧ k = m) → ¬ (t = 10 ∧ k = 5 * m) → I1 t k = I t k := fun t k q1 q2 => by
    rw [← hI1, cI_ne (fun q => q2 (by cases q; exact ⟨rfl, rfl⟩)), uI_ne (fun q => q1 (by cases q; exact ⟨rfl, rfl⟩)), uI_ne (fun q => q1 (by cases q; exact ⟨rfl, rfl⟩))]
  have f8 : I1 8 m = uI (uI I 8 m 6 0) 8 m 7 (nI w) 8 m := by rw [← hI1, cI_ne (by simp)]
  have hP : PRE I1 m ev N N h00 h00 h00 0 0 := by
    refine ⟨?_, by rw [f1 16 _ (by omega) (by omega)]; exact n1, fun z hz => absurd hz (by omega), ⟨fun t ht => ?_, fun s t hs => ?_, fun z hz => absurd hz (by omega)⟩, fun z v _ hv => absurd hv (by omega), fun q hq => absurd hq (by omega), fun q hq => absurd hq (by omega), fun _ => ⟨fun a b hab hb => ?_, fun a b hab hb _ => ⟨(n5 a b (by omega) hb).2, Sub.rf⟩, fun l1 g1 _ a b hab hb _ => (g1.in hab (by omega) (pr0_lt ev (by omega) b hb a hab)).1⟩⟩
    · unfold ALG at hA ⊢
      rw [f1 1 0 (by omega) (by omega), f1 2 0 (by omega) (by omega)]
      exact hA
    · obtain ⟨z, hz, _⟩ := ht
      exact absurd hz (by omega)
    · obtain ⟨z, hz, _⟩ := hs
      exact absurd hz (by omega)
    · rw [Nat.add_zero, ← hI1, cI_self, pk_cpy_in (by omega) (by omega), Nat.sub_zero, Nat.zero_add, uI_tt (by decide), uI_tt (by decide)]
      exact n5 a b (by omega) hb
  have hL : LST I1 J m ev [] := ⟨by rw [f8, uI_j (by decide), uI_at]; rfl, by simp, fun k hk => absurd hk (by simp), fun q => absurd q (by simp)⟩
  have hs := c_search m ev w N n3 n4 (by omega) (PRb 0 ev + ev) I1 J 0 0 0 N h00 h00 h00 1 242 1 242 [] (PRb 0 ev + ev + 3) (by omega) rfl (Nat.le_refl _) (by omega) (fun _ => rfl) hP hL (by simp; omega) (by rw [f8, uI_at]) IV.zero IV.zero (by decide) (by decide) (Nat.le_refl _)
  refine Sat.of k_X3_find [] 60 ?_
  refine ⟨by omega, vp_in_nI (n := 0) (N := 5) (by decide) (by decide), by omega, by decide, by decide, by decide, by decide, by decide, PRb 0 ev + ev + 3, 117, by omega, Nat.le_refl _, hs.to rfl ?_ ?_⟩
  · show (cI (uI (uI I 8 m 6 0) 8 m 7 (if nI (tlen 14 m) < nI most then nI (tlen 14 m) else nI most)) 17 (2 * m + 1) 10 (5 * m) 0 0 25, J, 117, aT) = _
    rw [em, hI1]
  · rintro r σ ⟨I2, J2, rfl, rfl, q1, q2⟩
    have es : [] ++ ext N (PRb 0 ev - 0) 0 h00 = sols ev N := rfl
    rw [es] at q1 ⊢
    have hfr : frL m I I1 := fun t k hk => f1 t k (fun q => hk ⟨by omega, by omega, Or.inl q.2⟩) (fun q => hk ⟨by omega, by omega, Or.inr ⟨q.1, by omega⟩⟩)
    have fin : ∀ b : Bool, b = decide ((sols ev N).length < w) → FND (uI I2 8 m 8 (bi b)) J2 m ev w N ∧ frL m I (uI I2 8 m 8 (bi b)) := by
      rintro b rfl
      obtain ⟨a1, a2, a3, a4⟩ := q1
      refine ⟨⟨⟨by rw [uI_j (by decide)]; exact a1, a2, a3, fun q => ?_⟩, uI_at⟩, (hfr.tr q2.1).u (by decide) (by decide)⟩
      unfold TMS
      rw [uI_tt (by decide)]
      exact a4 q
    have hsz : I2 8 m 6 = nI (min (sols ev N).length w) := by rw [q1.1, List.length_take, Nat.min_comm]
    refine ⟨fun c => ⟨Or.inl rfl, rfl, trivial, uI I2 8 m 8 0, J2, ?_, rfl, ?_⟩, fun c => ⟨Or.inr rfl, rfl, trivial, uI I2 8 m 8 1, J2, ?_, rfl, ?_⟩⟩
    · show some (vi (uI I2 8 m 8 0 8 m 6)) = _
      rw [uI_j (by decide), hsz]
    · have c := of_decide_eq_true (bi_t c)
      have := fin false (by rw [decide_eq_false (by omega)])
      exact ⟨this.1, this.2, fun k hk => q2.2.2.2.2.2 k hk⟩
    · show some (vi (uI I2 8 m 8 1 8 m 6)) = _
      rw [uI_j (by decide), hsz]
    · have c := of_decide_eq_false (bi_f c)
      have := fin true (by rw [decide_eq_true (by omega)])
      exact ⟨this.1, this.2, fun k hk => q2.2.2.2.2.2 k hk⟩
