/-! The model: deeds -/
theorem RW.copy {I I1 : SI} {t o t1 o1 : Nat} {L : List Ob} (h : RW I t o L) (hc : ∀ k, k < 25 → I1 t1 0 (o1 + k) = I t 0 (o + k)) : RW I1 t1 o1 L := by
  obtain ⟨h1, h2, h3⟩ := h
  refine ⟨by have := hc 0 (by decide); rw [Nat.add_zero, Nat.add_zero] at this; rw [this]; exact h1, h2, fun j hj => ?_⟩
  obtain ⟨a1, a2, a3⟩ := h3 j hj
  have c1 := hc (1 + 3 * j) (by omega)
  have c2 := hc (2 + 3 * j) (by omega)
  have c3 := hc (3 + 3 * j) (by omega)
  rw [← Nat.add_assoc, ← Nat.add_assoc] at c1 c2 c3
  rw [c1, c2, c3]
  exact ⟨a1, a2, a3⟩
theorem ix25 (m k : Nat) : (25 : Int32) * nI m + nI k = nI (25 * m + k) := by
  rw [show (25 : Int32) = nI 25 from rfl, pk_mul, nI_add]
def frDd (I I1 : SI) : Prop := (∀ a b, ¬ (a = 29 ∨ a = 32) → I1 a b = I a b) ∧ ∀ j, j ≠ 3 → j ≠ 18 → I1 29 0 j = I 29 0 j
set_option maxRecDepth 10000 in
theorem m_deed (I : SI) (J : SJ) (L : List Ob) (H : List (List Ob)) (hR : RW I 30 0 L) (hP : MPT I H) (d : Nat) : Tri d YX9_deed 117 [vr 29 0] (S0 I J) (fun r σ => r = none ∧ ∃ I1, σ = S0 I1 J ∧ MPT I1 (rem8 H L) ∧ I1 29 0 18 = 0 ∧ frDd I I1) := by
  refine Tri.of (M := MX9_deed) k_X9_deed ⟨Nat.le_refl _, Nat.le_refl _⟩ (Nat.le_of_ble_eq_true rfl) ?_
  obtain ⟨p1, p2, p3⟩ := hP
  generalize hQ : (fun (r : Option AV) (σ : ST) => r = none ∧ ∃ I1, σ = S0 I1 J ∧ MPT I1 (rem8 H L) ∧ I1 29 0 18 = 0 ∧ frDd I I1) = Q
  -- the copy behind the others
  have copy : ∀ (H1 : List (List Ob)) (I0 : SI), H1 = (if H.length = 8 then H.tail else H) → frDd I I0 → I0 29 0 3 = nI H1.length → (∀ j, j < H1.length → RW I0 32 (25 * j) (nthD H1 j [])) → ∀ (m k : Nat) (I1 : SI), k + m = 25 → (∀ a b, a ≠ 32 → I1 a b = I0 a b) → (∀ i, i < k → I1 32 0 (25 * H1.length + i) = I 30 0 i) → (∀ i, i < 25 * H1.length → I1 32 0 i = I0 32 0 i) → Sat none MX9_deed d 117 Q 51 [some (vr 29 0), some (vi (nI k))] [] (S0 I1 J) := by
    intro H1 I0 hH f0 f3 f4 m
    have hlen : H1.length ≤ 7 := by
      rw [hH]
      split
      · rw [List.length_tail]
        omega
      · omega
    induction m with
    | zero =>
      intro k I1 hk g1 g2 g3
      have e : k = 25 := by omega
      subst e
      refine Sat.of k_X9_deed [51] 60 ?_
      refine ⟨fun _ => ⟨Or.inl rfl, rfl, rfl, ?_⟩, fun c => absurd (nI_le (a := 25) (b := 25) (by omega) (by omega)) c⟩
      rw [← hQ]
      have e29 : ∀ j, I1 29 0 j = I0 29 0 j := fun j => by rw [g1 29 0 (by decide)]
      refine ⟨rfl, _, rfl, ⟨?_, ?_, fun j hj => ?_⟩, uI_at, fun a b q => ?_, fun j q1 q2 => ?_⟩
      · rw [uI_j (by decide), uI_at, e29, f3, nI_1]
        unfold rem8
        rw [← hH, List.length_append]
        rfl
      · unfold rem8
        rw [← hH, List.length_append]
        show H1.length + 1 ≤ 8
        omega
      · unfold rem8 at hj ⊢
        rw [← hH, List.length_append] at hj
        have hj : j < H1.length + 1 := hj
        rw [← hH, nthD_snoc]
        by_cases ej : j < H1.length
        · rw [if_pos ej]
          refine (f4 j ej).copy (fun c hc => ?_)
          rw [uI_t (by decide), uI_t (by decide)]
          exact g3 _ (by omega)
        · have ej2 : j = H1.length := by omega
          rw [if_neg ej, if_pos ej2]
          refine hR.copy (fun c hc => ?_)
          rw [uI_t (by decide), uI_t (by decide), ej2, g2 c hc, Nat.zero_add]
      · rw [uI_tt (by omega), uI_tt (by omega), g1 a b (by omega)]
        exact f0.1 a b q
      · rw [uI_j q2, uI_j q1, e29]
        exact f0.2 j q1 q2
    | succ m ih =>
      intro k I1 hk g1 g2 g3
      have ek : (nI k).toNatClampNeg = k := nI_clamp (by omega)
      have e3 : I1 29 0 3 = nI H1.length := by rw [g1 29 0 (by decide)]; exact f3
      have ix : (25 : Int32) * I1 29 0 3 + nI k = nI (25 * H1.length + k) := by rw [e3, ix25]
      refine Sat.of k_X9_deed [51] 60 ?_
      refine ⟨fun c => absurd ((nI_leI (a := 25) (by omega) (by omega)).mp c) (by omega), fun _ => ⟨vp_in_nI (by omega) (by decide), ?_, ?_⟩⟩
      · show vp_in (25 * I1 29 0 3 + nI k) 200
        rw [ix]
        exact vp_in_nI (by omega) (by decide)
      · refine (ih (k + 1) (uI I1 32 0 (25 * H1.length + k) (I1 30 0 k)) (by omega) (fun a b q => by rw [uI_tt q]; exact g1 a b q) (fun i hi => ?_) (fun i hi => ?_)).to (by rw [← nI_1]; rfl) (show (uI I1 32 0 (25 * I1 29 0 3 + nI k).toNatClampNeg (I1 30 0 (nI k).toNatClampNeg), J, 117, aT) = _ by rw [ix, ek, nI_clamp (by omega)])
        · by_cases e : i = k
          · rw [e, uI_at, g1 30 0 (by decide), f0.1 30 0 (by omega)]
          · rw [uI_j (by omega)]
            exact g2 i (by omega)
        · rw [uI_j (by omega)]
          exact g3 i hi
  -- the oldest goes
  have shift : H.length = 8 → ∀ (m k : Nat) (I1 : SI), k + m = 175 → (∀ a b, a ≠ 32 → I1 a b = I a b) → (∀ i, i < k → I1 32 0 i = I 32 0 (i + 25)) → (∀ i, k ≤ i → I1 32 0 i = I 32 0 i) → Sat none MX9_deed d 117 Q 11 [some (vr 29 0), some (vi (nI k))] [] (S0 I1 J) := by
    intro h8 m
    induction m with
    | zero =>
      intro k I1 hk g1 g2 g3
      have e : k = 175 := by omega
      subst e
      refine Sat.of k_X9_deed [11, 51] 60 ?_
      refine ⟨fun _ => ?_, fun c => absurd (nI_le (a := 175) (b := 175) (by omega) (by omega)) c⟩
      have e3 : I1 29 0 3 = nI 8 := by rw [g1 29 0 (by decide), p1, h8]
      have hl : H.tail.length = 7 := by rw [List.length_tail, h8]
      refine (copy H.tail (uI I1 29 0 3 (nI 7)) (by rw [if_pos h8]) ⟨fun a b q => ?_, fun j q1 q2 => ?_⟩ (by rw [uI_at, hl]) (fun j hj => ?_) 25 0 (uI I1 29 0 3 (nI 7)) (by omega) (fun _ _ _ => rfl) (fun i hi => absurd hi (by omega)) (fun _ _ => rfl)).to rfl ?_
      · rw [uI_tt (by omega)]
        exact g1 a b (by omega)
      · rw [uI_j q1, g1 29 0 (by decide)]
      · rw [hl] at hj
        rw [nthD_tail]
        refine (p3 (j + 1) (by omega)).copy (fun c hc => ?_)
        rw [uI_t (by decide), g2 _ (by omega)]
        congr 1
        omega
      · show (uI I1 29 0 3 (I1 29 0 3 - 1), J, 117, aT) = _
        rw [e3]
        rfl
    | succ m ih =>
      intro k I1 hk g1 g2 g3
      have ek : (nI k).toNatClampNeg = k := nI_clamp (by omega)
      have ek2 : nI k + 25 = nI (k + 25) := by rw [show (25 : Int32) = nI 25 from rfl, nI_add]
      refine Sat.of k_X9_deed [11, 51] 60 ?_
      refine ⟨fun c => absurd ((nI_leI (a := 175) (by omega) (by omega)).mp c) (by omega), fun _ => ⟨?_, vp_in_nI (by omega) (by decide), ?_⟩⟩
      · show vp_in (nI k + 25) 200
        rw [ek2]
        exact vp_in_nI (by omega) (by decide)
      · refine (ih (k + 1) (uI I1 32 0 k (I1 32 0 (k + 25))) (by omega) (fun a b q => by rw [uI_tt q]; exact g1 a b q) (fun i hi => ?_) (fun i hi => ?_)).to (by rw [← nI_1]; rfl) (show (uI I1 32 0 (nI k).toNatClampNeg (I1 32 0 (nI k + 25).toNatClampNeg), J, 117, aT) = _ by rw [ek, ek2, nI_clamp (by omega)])
        · by_cases e : i = k
          · rw [e, uI_at]
            exact g3 _ (by omega)
          · rw [uI_j e]
            exact g2 i (by omega)
        · rw [uI_j (by omega)]
          exact g3 i (by omega)
  refine Sat.of k_X9_deed [11, 51] 60 ?_
  refine ⟨fun c => ?_, fun c => ?_⟩
  · have c : ¬ I 29 0 3 = nI 8 := c
    rw [p1] at c
    have h8 : ¬ H.length = 8 := fun e => c (by rw [e])
    exact (copy H I (by rw [if_neg h8]) ⟨fun _ _ _ => rfl, fun _ _ _ => rfl⟩ p1 p3 25 0 I (by omega) (fun _ _ _ => rfl) (fun i hi => absurd hi (by omega)) (fun _ _ => rfl)).to rfl rfl
  · have c : I 29 0 3 = nI 8 := c
    rw [p1, nI_eq (by omega) (by decide)] at c
    exact (shift c 175 0 I (by omega) (fun _ _ _ => rfl) (fun i hi => absurd hi (by omega)) (fun _ _ => rfl)).to rfl rfl
/-- a change of the observations and of the past -/
theorem MR.chg {I I1 : SI} {ev : Nat} {L L1 : List Ob} {H H1 : List (List Ob)} {img : Nat → List Ob} {kp : Nat → Bool} {S : List Ob} {n : Nat} {t : Nat → Nat} (h : MR I (ev, L, H, img, kp, S, n, t)) (hf : ∀ a b, ¬ (a = 29 ∨ a = 30 ∨ a = 32) → I1 a b = I a b) (hj : ∀ j, j ≠ 3 → j ≠ 18 → I1 29 0 j = I 29 0 j) (hR : RW I1 30 0 L1) (hw : WFo ev L1) (hP : MPT I1 H1) (hwh : WFH ev H1) (h18 : I1 29 0 18 = 0) : MR I1 (ev, L1, H1, img, kp, S, n, t) := by
  obtain ⟨h1, h2, h3, h4, h5, h6, h7, h8, h9⟩ := h
  refine ⟨⟨by rw [hj 6 (by decide) (by decide)]; exact h1.1, h1.2.1, h1.2.2.1, hR, hw, ?_⟩, ⟨false, h18, fun q => absurd q (by decide)⟩, hP, hwh, h5.k (hf 34 0 (by omega)) (hf 33 0 (by omega)), h6, h7.k (hj 10 (by decide) (by decide)) (hf 35 0 (by omega)) (hf 36 0 (by omega)) (hf 37 0 (by omega)), h8, h9.k (hj 22 (by decide) (by decide)) (hf 46 0 (by omega))⟩
  have := h1.2.2.2.2.2
  unfold MC at this ⊢
  rw [hf 38 0 (by omega), hf 39 0 (by omega), hf 40 0 (by omega)]
  exact this
set_option maxRecDepth 10000 in
theorem m_adds (I : SI) (J : SJ) (s : SS) (x w y : Int32) (h : MR I s) (d : Nat) (hd : 2 < d) : Tri d YX9_adds 117 [vr 29 0, vi x, vi w, vi y] (S0 I J) (fun r σ => r = some (vi (oAdds s x w y).1) ∧ ∃ I1, σ = S0 I1 J ∧ MR I1 (oAdds s x w y).2 ∧ frK I I1) := by
  refine Tri.of (M := MX9_adds) k_X9_adds ⟨Nat.le_refl _, Nat.le_refl _⟩ (Nat.le_of_ble_eq_true rfl) ?_
  obtain ⟨ev, L, H, img, kp, S, n, t⟩ := s
  have hB : MB I ev L := h.1
  have h5 := hB.2.2.1
  have hR := hB.2.2.2.1
  have h8 := hR.2.1
  have bad : (two x y ev && isTld w) = false → some (vi (-1 : Int32)) = some (vi (oAdds (ev, L, H, img, kp, S, n, t) x w y).1) ∧ ∃ I1, S0 I J = S0 I1 J ∧ MR I1 (oAdds (ev, L, H, img, kp, S, n, t) x w y).2 ∧ frK I I1 := fun q => by
    have e : oAdds (ev, L, H, img, kp, S, n, t) x w y = (-1, (ev, L, H, img, kp, S, n, t)) := by
      simp only [oAdds]
      rw [if_neg (by rw [q]; decide)]
    rw [e]
    exact ⟨rfl, I, rfl, h, frK.rf⟩
  refine Sat.of k_X9_adds [52] 60 ?_
  refine ⟨2, 117, hd, Nat.le_refl _, (m_areTwo I J ev x y hB.1 h5 2 (by decide)).mono ?_⟩
  rintro v σ ⟨rfl, rfl⟩
  refine ⟨fun c => ⟨rfl, trivial, bad (by rw [bi_f c, Bool.false_and])⟩, fun c => ⟨0, 117, by omega, Nat.le_refl _, (m_in I J w (nI 1) (nI 8191) 0).mono ?_⟩⟩
  rintro v σ ⟨rfl, rfl⟩
  rw [inB_bet w 1 8191 (by decide) (by decide), ← isTld_bet]
  refine ⟨fun c1 => ?_, fun c1 => ⟨rfl, trivial, bad (by rw [bi_f c1, Bool.and_false])⟩⟩
  have ht := bi_t c
  have hr := bi_t c1
  obtain ⟨i, j, i1, j1, hij, rfl, rfl⟩ := two_of ht (by omega)
  obtain ⟨k, k0, k1, rfl⟩ := isTld_of hr
  have e0 : I 30 0 (nI 0).toNatClampNeg = nI L.length := by rw [nI_clamp (by decide)]; exact hR.1
  refine ⟨vp_in_nI (n := 0) (by decide) (by decide), fun c2 => ?_, fun c2 => ⟨rfl, trivial, ?_⟩⟩
  · have c2 : ¬ I 30 0 (nI 0).toNatClampNeg = nI 8 := c2
    rw [e0] at c2
    have hn : L.length < 8 := by
      rcases Nat.lt_or_ge L.length 8 with z | z
      · exact z
      · exact absurd (by rw [show L.length = 8 by omega]) c2
    have e : oAdds (ev, L, H, img, kp, S, n, t) (nI i) (nI k) (nI j) = (nI (L.length + 1), (ev, L ++ [(i, k, j)], rem8 H L, img, kp, S, n, t)) := by
      simp only [oAdds]
      rw [if_pos (by rw [ht, hr]; rfl), if_pos hn, nI_clamp (by omega), nI_clamp (by omega), nI_clamp (by omega)]
    rw [e]
    refine ⟨0, 117, by omega, Nat.le_refl _, (m_deed I J L H hR h.2.2.1 0).mono ?_⟩
    rintro v σ ⟨rfl, I1, rfl, q1, q2, q3⟩
    have e1 : I1 30 0 (nI 0).toNatClampNeg = nI L.length := by rw [q3.1 30 0 (by omega)]; exact e0
    have ek : (1 : Int32) + 3 * I1 30 0 (nI 0).toNatClampNeg = nI (1 + 3 * L.length) := by rw [e1, k3]
    have goal : Sat none MX9_adds d 117 (fun r σ => r = some (vi (nI (L.length + 1))) ∧ ∃ I1, σ = S0 I1 J ∧ MR I1 (ev, L ++ [(i, k, j)], rem8 H L, img, kp, S, n, t) ∧ frK I I1) 52 [some (vr 29 0), some (vi (nI i)), some (vi (nI k)), some (vi (nI j)), some (vi (nI (1 + 3 * L.length)))] [] (S0 I1 J) := by
      generalize hm : 1 + 3 * L.length = m
      have em : (nI m).toNatClampNeg = m := nI_clamp (by omega)
      have em1 : nI m + 1 = nI (m + 1) := nI_1 m
      have em2 : nI m + 2 = nI (m + 2) := by rw [show (2 : Int32) = nI 2 from rfl, nI_add]
      have z0 : uI (uI (uI I1 30 0 m (nI i)) 30 0 (m + 1) (nI k)) 30 0 (m + 2) (nI j) 30 0 0 = nI L.length := by
        rw [uI_j (by omega), uI_j (by omega), uI_j (by omega), q3.1 30 0 (by omega)]
        exact hR.1
      refine Sat.of k_X9_adds [] 60 ?_
      refine ⟨vp_in_nI (by omega) (by decide), ?_, ?_, vp_in_nI (n := 0) (by decide) (by decide), vp_in_nI (n := 0) (by decide) (by decide), vp_in_nI (n := 0) (by decide) (by decide), rfl, trivial, ?_⟩
      · show vp_in (nI m + 1) 25
        rw [em1]
        exact vp_in_nI (by omega) (by decide)
      · show vp_in (nI m + 2) 25
        rw [em2]
        exact vp_in_nI (by omega) (by decide)
      · generalize hI2 : uI (uI (uI (uI I1 30 0 m (nI i)) 30 0 (m + 1) (nI k)) 30 0 (m + 2) (nI j)) 30 0 0 (nI (L.length + 1)) = I2
        have hst : uI (uI (uI (uI I1 30 0 (nI m).toNatClampNeg (nI i)) 30 0 (nI m + 1).toNatClampNeg (nI k)) 30 0 (nI m + 2).toNatClampNeg (nI j)) 30 0 (nI 0).toNatClampNeg (uI (uI (uI I1 30 0 (nI m).toNatClampNeg (nI i)) 30 0 (nI m + 1).toNatClampNeg (nI k)) 30 0 (nI m + 2).toNatClampNeg (nI j) 30 0 (nI 0).toNatClampNeg + 1) = I2 := by
          rw [em1, em2, em, nI_clamp (show m + 1 < 2 ^ 31 by omega), nI_clamp (show m + 2 < 2 ^ 31 by omega), nI_clamp (show 0 < 2 ^ 31 by decide), z0, nI_1, hI2]
        have ff : ∀ a b, ¬ (a = 29 ∨ a = 30 ∨ a = 32) → I2 a b = I a b := fun a b q => by
          rw [← hI2, uI_tt (by omega), uI_tt (by omega), uI_tt (by omega), uI_tt (by omega), q3.1 a b (by omega)]
        refine ⟨?_, I2, ?_, h.chg ff (fun z q1 q2 => ?_) ⟨?_, ?_, fun q hq => ?_⟩ (hB.2.2.2.2.1.snoc i1 j1 hij k0 k1) (q1.k ?_ ?_) (h.2.2.2.1.rem hB.2.2.2.2.1) ?_, fun a b q => ff a b (by omega)⟩
        · refine Eq.trans (congrArg (fun z : SI => some (vi (z 30 0 (nI 0).toNatClampNeg))) hst) ?_
          show some (vi (I2 30 0 (nI 0).toNatClampNeg)) = _
          rw [nI_clamp (by decide), ← hI2, uI_at]
        · exact congrArg (fun z : SI => (z, J, 117, aT)) hst
        · rw [← hI2, uI_t (by decide), uI_t (by decide), uI_t (by decide), uI_t (by decide)]
          exact q3.2 z q1 q2
        · rw [← hI2, uI_at, List.length_append]
          rfl
        · rw [List.length_append]
          show L.length + 1 ≤ 8
          omega
        · rw [List.length_append] at hq
          have hq : q < L.length + 1 := hq
          rw [nthD_snoc]
          by_cases e1 : q < L.length
          · rw [if_pos e1]
            have := hR.2.2 q e1
            have c1 : ∀ z, z ≠ 0 → z < m → I2 30 0 z = I 30 0 z := fun z hz hz2 => by
              rw [← hI2, uI_j hz, uI_j (by omega), uI_j (by omega), uI_j (by omega), q3.1 30 0 (by omega)]
            rw [c1 _ (by omega) (by omega), c1 _ (by omega) (by omega), c1 _ (by omega) (by omega)]
            exact this
          · have e2 : q = L.length := by omega
            subst e2
            rw [if_neg (by omega), if_pos rfl, show 0 + 1 + 3 * L.length = m by omega, show 0 + 2 + 3 * L.length = m + 1 by omega, show 0 + 3 + 3 * L.length = m + 2 by omega, ← hI2]
            refine ⟨?_, ?_, ?_⟩
            · rw [uI_j (by omega), uI_j (by omega), uI_j (by omega), uI_at]
            · rw [uI_j (by omega), uI_j (by omega), uI_at]
            · rw [uI_j (by omega), uI_at]
        · rw [← hI2, uI_t (by decide), uI_t (by decide), uI_t (by decide), uI_t (by decide)]
        · rw [← hI2, uI_tt (by decide), uI_tt (by decide), uI_tt (by decide), uI_tt (by decide)]
        · rw [← hI2, uI_t (by decide), uI_t (by decide), uI_t (by decide), uI_t (by decide)]
          exact q2
    exact ⟨vp_in_nI (n := 0) (by decide) (by decide), goal.to (show [some (vr 29 0), some (vi (nI i)), some (vi (nI k)), some (vi (nI j)), some (vi ((1 : Int32) + 3 * I1 30 0 (nI 0).toNatClampNeg))] = _ by rw [ek]) rfl⟩
  · have c2 : I 30 0 (nI 0).toNatClampNeg = nI 8 := c2
    rw [e0, nI_eq (by omega) (by decide)] at c2
    have e : oAdds (ev, L, H, img, kp, S, n, t) (nI i) (nI k) (nI j) = (-3, (ev, L, H, img, kp, S, n, t)) := by
      simp only [oAdds]
      rw [if_pos (by rw [ht, hr]; rfl), if_neg (by omega)]
    rw [e]
    exact ⟨rfl, I, rfl, h, frK.rf⟩
