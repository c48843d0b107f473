/-! The model: history, wrong, unseen -/
set_option maxRecDepth 10000 in
theorem m_history (I : SI) (J : SJ) (s : SS) (k x y : Int32) (h : MR I s) (d : Nat) (hd : 3 < d) : Tri d YX9_history 117 [vr 29 0, vi k, vi x, vi y] (S0 I J) (fun r σ => r = some (vi (oHistory s k x y)) ∧ ∃ I1, σ = S0 I1 J ∧ MR I1 s ∧ frK I I1) := by
  refine Tri.of (M := MX9_history) k_X9_history ⟨Nat.le_refl _, Nat.le_refl _⟩ (Nat.le_of_ble_eq_true rfl) ?_
  obtain ⟨ev, L, H, img, kp, S, n, t⟩ := s
  have hB : MB I ev L := h.1
  have h5 := hB.2.2.1
  have bad : (isIn k 300 && two x y ev) = false → some (vi (-1 : Int32)) = some (vi (oHistory (ev, L, H, img, kp, S, n, t) k x y)) ∧ ∃ I1, S0 I J = S0 I1 J ∧ MR I1 (ev, L, H, img, kp, S, n, t) ∧ frK I I1 := fun q => by
    have e : oHistory (ev, L, H, img, kp, S, n, t) k x y = -1 := by
      unfold oHistory
      rw [if_neg (by rw [q]; decide)]
    rw [e]
    exact ⟨rfl, I, rfl, h, frK.rf⟩
  refine Sat.of k_X9_history [37] 60 ?_
  refine ⟨0, 117, by omega, Nat.le_refl _, (m_in I J k 0 (nI 299) 0).mono ?_⟩
  rintro r σ ⟨rfl, rfl⟩
  rw [inB_lit k 299 (by decide)]
  refine ⟨fun c => ⟨rfl, trivial, bad (by rw [bi_f c, Bool.false_and])⟩, fun c => ⟨2, 117, by omega, Nat.le_refl _, (m_areTwo I J ev x y hB.1 h5 2 (by decide)).mono ?_⟩⟩
  rintro r σ ⟨rfl, rfl⟩
  refine ⟨fun c1 => ?_, fun c1 => ⟨rfl, trivial, bad (by rw [bi_f c1, Bool.and_false])⟩⟩
  have hk := bi_t c
  have ht := bi_t c1
  obtain ⟨m, m1, rfl⟩ := isIn_of hk (by decide)
  obtain ⟨i, j, i1, j1, hij, rfl, rfl⟩ := two_of ht (by omega)
  have eo : oHistory (ev, L, H, img, kp, S, n, t) (nI m) (nI i) (nI j) = (if m < (hst ev L 0).length then nI (relH (nthD (hst ev L 0) m h00) i j) else -9) := by
    unfold oHistory
    rw [if_pos (by rw [hk]; exact ht), nI_clamp (by omega), nI_clamp (by omega), nI_clamp (by omega)]
  rw [eo]
  refine ⟨2, 117, by omega, Nat.le_refl _, (m_lets I J ev 0 L hB (by decide) 2 (by decide)).mono ?_⟩
  rintro v σ ⟨rfl, I1, rfl, q1, q2⟩
  have h1 := hB.fr q2.M
  generalize hQ : (fun (r : Option AV) (σ : ST) => r = some (vi (if m < (hst ev L 0).length then nI (relH (nthD (hst ev L 0) m h00) i j) else -9)) ∧ ∃ I1, σ = S0 I1 J ∧ MR I1 (ev, L, H, img, kp, S, n, t) ∧ frK I I1) = Q
  have loop : ∀ (z w : Nat) (I2 : SI), w + z = m → fr42 I1 I2 → (w < (hst ev L 0).length → CUR (tol L (Nat.testBit 0)) (PRb 0 ev) (hst ev L 0) w I2) → Sat none MX9_history d 117 Q 37 [some (vr 29 0), some (vi (nI m)), some (vi (nI i)), some (vi (nI j)), some (vi (bi (decide (w < (hst ev L 0).length)))), some (vi (nI w))] [] (S0 I2 J) := by
    intro z
    have fin : ∀ (w : Nat) (I2 : SI), w ≤ m → (w = m ∨ ¬ w < (hst ev L 0).length) → fr42 I1 I2 → (w < (hst ev L 0).length → CUR (tol L (Nat.testBit 0)) (PRb 0 ev) (hst ev L 0) w I2) → Sat none MX9_history d 117 Q 61 [some (vr 29 0), some (vi (nI m)), some (vi (nI i)), some (vi (nI j)), some (vi (bi (decide (w < (hst ev L 0).length)))), some (vi (nI w))] [] (S0 I2 J) := fun w I2 hw hor f1 f2 => by
      refine Sat.of k_X9_history [37] 60 ?_
      refine ⟨fun c => ⟨rfl, trivial, ?_⟩, fun c => ⟨1, 117, by omega, Nat.le_refl _, (m_triedOf I2 J ev i j _ (f2 (of_decide_eq_true (bi_t c))).1 h5 i1 j1 hij 1 (by decide)).mono ?_⟩⟩
      · have c := of_decide_eq_false (bi_f c)
        rw [← hQ, if_neg (by omega)]
        exact ⟨rfl, I2, rfl, h.fr (q2.M.tr f1.M), (q2.M.tr f1.M).K⟩
      · have c3 := of_decide_eq_true (bi_t c)
        have e : w = m := by
          rcases hor with e | e
          · exact e
          · exact absurd c3 e
        rw [e] at c3
        rintro v σ ⟨rfl, rfl⟩
        refine ⟨rfl, trivial, ?_⟩
        rw [← hQ, if_pos c3, e]
        exact ⟨rfl, I2, rfl, h.fr (q2.M.tr f1.M), (q2.M.tr f1.M).K⟩
    induction z with
    | zero =>
      intro w I2 hw f1 f2
      have e : w = m := by omega
      refine Sat.of k_X9_history [61] 60 ?_
      exact ⟨fun _ => fin w I2 (by omega) (Or.inl e) f1 f2, fun c => absurd (nI_le (a := m) (b := w) (by omega) (by omega)) c⟩
    | succ z ih =>
      intro w I2 hw f1 f2
      have h2 := h1.fr f1.M
      refine Sat.of k_X9_history [37, 61] 60 ?_
      refine ⟨fun c => absurd ((nI_leI (a := m) (by omega) (by omega)).mp c) (by omega), fun _ => ⟨fun c => fin w I2 (by omega) (Or.inr (of_decide_eq_false (bi_f c))) f1 f2, fun c => ⟨3, 117, hd, Nat.le_refl _, (m_more1 I2 J ev w _ (hst ev L 0) h2.2.2.2.2.2 (q1.fr f1) h2.1 hB.2.1 h5 (f2 (of_decide_eq_true (bi_t c))) 3 (by decide)).mono ?_⟩⟩⟩
      rintro v σ ⟨I3, rfl, g1, rfl, g2⟩
      refine (ih (w + 1) I3 (by omega) (fun a b q => (g1 a b q).trans (f1 a b q)) g2).to ?_ rfl
      rw [← nI_1]
      rfl
  refine ⟨3, 117, hd, Nat.le_refl _, (m_first1 I1 J ev _ h1.2.2.2.2.2 q1 h1.1 hB.2.1 h5 3 (by decide)).mono ?_⟩
  rintro v σ ⟨I2, rfl, g1, rfl, g2⟩
  exact (loop m 0 I2 (by omega) g1 g2).to rfl rfl
theorem or_add {a k : Nat} (h : a < 2 ^ k) : a ||| 2 ^ k = a + 2 ^ k := by
  have := Nat.two_pow_add_eq_or_of_lt h 1
  rw [Nat.mul_one] at this
  rw [Nat.or_comm, ← this, Nat.add_comm]
theorem goS_2 {ev : Nat} {L : List Ob} : ∀ {k : Nat}, (goS ev L k).2 = 2 ^ k - 1 - (goS ev L k).1
  | 0 => by simp [goS]
  | k + 1 => by
    have h1 := goS_lt (ev := ev) (L := L) (k := k)
    have h2 := goS_2 (ev := ev) (L := L) (k := k)
    have h3 : 2 ^ (k + 1) = 2 ^ k + 2 ^ k := by rw [Nat.pow_succ]; omega
    simp only [goS]
    split
    · show (goS ev L k).2 ||| 2 ^ k = 2 ^ (k + 1) - 1 - (goS ev L k).1
      rw [or_add (by omega)]
      omega
    · show (goS ev L k).2 = 2 ^ (k + 1) - 1 - ((goS ev L k).1 ||| 2 ^ k)
      rw [or_add h1]
      omega
theorem qr_tab : ∀ k, k < 9 → ∀ g, g < 2 ^ k → ((1 : Int32) <<< (nI k &&& 31) - 1) &&& (nI g ^^^ (-1)) = nI (2 ^ k - 1 - g) := by decide +kernel
set_option maxRecDepth 10000 in
theorem m_quarrel (I : SI) (J : SJ) (ev : Nat) (L : List Ob) (h : MB I ev L) (d : Nat) (hd : 4 < d) : Tri d YX9_quarrel 117 [vr 29 0] (S0 I J) (fun r σ => r = some (vi (nI (goS ev L L.length).2)) ∧ ∃ I1, σ = S0 I1 J ∧ frM I I1) := by
  refine Tri.of (M := MX9_quarrel) k_X9_quarrel ⟨Nat.le_refl _, Nat.le_refl _⟩ (Nat.le_of_ble_eq_true rfl) ?_
  have hR := h.2.2.2.1
  have h8 := hR.2.1
  have e0 : ∀ I1, frM I I1 → I1 30 0 (nI 0).toNatClampNeg = nI L.length := fun I1 f => by rw [nI_clamp (by decide), f 30 0 (by omega)]; exact hR.1
  have loop : ∀ (m k : Nat) (I1 : SI), k + m = L.length → frM I I1 → Sat none MX9_quarrel d 117 (fun r σ => r = some (vi (nI (goS ev L L.length).2)) ∧ ∃ I1, σ = S0 I1 J ∧ frM I I1) 4 [some (vr 29 0), some (vi (nI (goS ev L k).1)), some (vi (nI k))] [] (S0 I1 J) := by
    intro m
    induction m with
    | zero =>
      intro k I1 hk f
      have e : k = L.length := by omega
      subst e
      refine Sat.of k_X9_quarrel [4, 34] 60 ?_
      refine ⟨vp_in_nI (n := 0) (by decide) (by decide), fun _ => ⟨vp_in_nI (n := 0) (by decide) (by decide), rfl, trivial, ?_, I1, rfl, f⟩, fun c => ?_⟩
      · show some (vi (((1 : Int32) <<< (I1 30 0 (nI 0).toNatClampNeg &&& 31) - 1) &&& (nI (goS ev L L.length).1 ^^^ (-1)))) = _
        rw [e0 I1 f, qr_tab _ (by omega) _ goS_lt, goS_2]
      · have c : ¬ I1 30 0 (nI 0).toNatClampNeg ≤ nI L.length := c
        rw [e0 I1 f] at c
        exact absurd (nI_le (Nat.le_refl _) (by omega)) c
    | succ m ih =>
      intro k I1 hk f
      have hlt := goS_lt (ev := ev) (L := L) (k := k)
      have hp := p2_8 (k := k) (by omega)
      have hpk : (1 : Int32) <<< (nI k &&& 31) = nI (2 ^ k) := nx_shl (by omega)
      have hp2 : (goS ev L k).1 ||| 2 ^ k < 2 ^ 31 := by
        rw [or_add hlt]
        have : 2 ^ k ≤ 2 ^ 8 := Nat.pow_le_pow_right (by decide) (by omega)
        omega
      refine Sat.of k_X9_quarrel [4, 34] 60 ?_
      refine ⟨vp_in_nI (n := 0) (by decide) (by decide), fun c => ?_, fun _ => ⟨4, 117, hd, Nat.le_refl _, (m_isWithout I1 J ev ((goS ev L k).1 ||| 2 ^ k) L (h.fr f) hp2 4 (by decide)).to ?_ rfl ?_⟩⟩
      · have c : I1 30 0 (nI 0).toNatClampNeg ≤ nI k := c
        rw [e0 I1 f, nI_leI (by omega) (by omega)] at c
        omega
      · show [vr 29 0, vi (nI (goS ev L k).1 ||| (1 : Int32) <<< (nI k &&& 31))] = _
        rw [hpk, nx_or]
      · rintro v σ ⟨I2, rfl, f2, rfl, _⟩
        have s34 : ∀ w, (goS ev L k).1 ||| w = (goS ev L (k + 1)).1 → Sat none MX9_quarrel d 117 (fun r σ => r = some (vi (nI (goS ev L L.length).2)) ∧ ∃ I1, σ = S0 I1 J ∧ frM I I1) 34 [some (vr 29 0), some (vi (nI (goS ev L k).1)), some (vi (nI k))] [vi (nI w), vi (nI (goS ev L k).1)] (S0 I2 J) := fun w hw => by
          refine Sat.of k_X9_quarrel [4] 60 ?_
          refine (ih (k + 1) I2 (by omega) (f.tr f2)).to ?_ rfl
          rw [← hw, ← nI_1, ← nx_or]
          rfl
        refine ⟨fun c => ?_, fun c => ?_⟩
        · have c := of_decide_eq_false (bi_f c)
          have := s34 (2 ^ k) (by simp only [goS]; rw [if_neg c])
          show Sat none MX9_quarrel d 117 _ 34 _ [vi ((1 : Int32) <<< (nI k &&& 31)), _] _
          rw [hpk]
          exact this
        · have c := of_decide_eq_true (bi_t c)
          exact s34 0 (by simp only [goS]; rw [if_pos c, Nat.or_zero])
  refine Sat.of k_X9_quarrel [4] 60 ?_
  exact (loop L.length 0 I (by omega) frM.rf).to rfl rfl
set_option maxRecDepth 10000 in
theorem m_blame (I : SI) (J : SJ) (ev : Nat) (L : List Ob) (h : MB I ev L) (d : Nat) (hd : 4 < d) : Tri d YX9_blame 117 [vr 29 0] (S0 I J) (fun r σ => r = some (vi (nI (blm ev L L.length))) ∧ ∃ I1, σ = S0 I1 J ∧ frM I I1) := by
  refine Tri.of (M := MX9_blame) k_X9_blame ⟨Nat.le_refl _, Nat.le_refl _⟩ (Nat.le_of_ble_eq_true rfl) ?_
  have hR := h.2.2.2.1
  have h8 := hR.2.1
  have e0 : ∀ I1, frM I I1 → I1 30 0 (nI 0).toNatClampNeg = nI L.length := fun I1 f => by rw [nI_clamp (by decide), f 30 0 (by omega)]; exact hR.1
  have loop : ∀ (m k : Nat) (I1 : SI), k + m = L.length → frM I I1 → Sat none MX9_blame d 117 (fun r σ => r = some (vi (nI (blm ev L L.length))) ∧ ∃ I1, σ = S0 I1 J ∧ frM I I1) 4 [some (vr 29 0), some (vi (nI (blm ev L k))), some (vi (nI k))] [] (S0 I1 J) := by
    intro m
    induction m with
    | zero =>
      intro k I1 hk f
      have e : k = L.length := by omega
      subst e
      refine Sat.of k_X9_blame [4, 32] 60 ?_
      refine ⟨vp_in_nI (n := 0) (by decide) (by decide), fun _ => ⟨rfl, trivial, rfl, I1, rfl, f⟩, fun c => ?_⟩
      have c : ¬ I1 30 0 (nI 0).toNatClampNeg ≤ nI L.length := c
      rw [e0 I1 f] at c
      exact absurd (nI_le (Nat.le_refl _) (by omega)) c
    | succ m ih =>
      intro k I1 hk f
      have hp := p2_8 (k := k) (by omega)
      have hpk : (1 : Int32) <<< (nI k &&& 31) = nI (2 ^ k) := nx_shl (by omega)
      refine Sat.of k_X9_blame [4, 32] 60 ?_
      refine ⟨vp_in_nI (n := 0) (by decide) (by decide), fun c => ?_, fun _ => ⟨4, 117, hd, Nat.le_refl _, (m_isWithout I1 J ev (2 ^ k) L (h.fr f) hp 4 (by decide)).to ?_ rfl ?_⟩⟩
      · have c : I1 30 0 (nI 0).toNatClampNeg ≤ nI k := c
        rw [e0 I1 f, nI_leI (by omega) (by omega)] at c
        omega
      · show [vr 29 0, vi ((1 : Int32) <<< (nI k &&& 31))] = _
        rw [hpk]
      · rintro v σ ⟨I2, rfl, f2, rfl, _⟩
        have s32 : ∀ w, blm ev L k ||| w = blm ev L (k + 1) → Sat none MX9_blame d 117 (fun r σ => r = some (vi (nI (blm ev L L.length))) ∧ ∃ I1, σ = S0 I1 J ∧ frM I I1) 32 [some (vr 29 0), some (vi (nI (blm ev L k))), some (vi (nI k))] [vi (nI w), vi (nI (blm ev L k))] (S0 I2 J) := fun w hw => by
          refine Sat.of k_X9_blame [4] 60 ?_
          refine (ih (k + 1) I2 (by omega) (f.tr f2)).to ?_ rfl
          rw [← hw, ← nI_1, ← nx_or]
          rfl
        refine ⟨fun c => ?_, fun c => ?_⟩
        · have c := of_decide_eq_false (bi_f c)
          exact s32 0 (by simp only [blm]; rw [if_neg c, Nat.or_zero])
        · have c := of_decide_eq_true (bi_t c)
          have := s32 (2 ^ k) (by simp only [blm]; rw [if_pos c])
          show Sat none MX9_blame d 117 _ 32 _ [vi ((1 : Int32) <<< (nI k &&& 31)), _] _
          rw [hpk]
          exact this
  refine Sat.of k_X9_blame [4] 60 ?_
  exact (loop L.length 0 I (by omega) frM.rf).to rfl rfl
set_option maxRecDepth 10000 in
theorem m_wrong (I : SI) (J : SJ) (s : SS) (w : Int32) (h : MR I s) (d : Nat) (hd : 5 < d) : Tri d YX9_wrong 117 [vr 29 0, vi w] (S0 I J) (fun r σ => r = some (vi (oWrong s w)) ∧ ∃ I1, σ = S0 I1 J ∧ MR I1 s ∧ frK I I1) := by
  refine Tri.of (M := MX9_wrong) k_X9_wrong ⟨Nat.le_refl _, Nat.le_refl _⟩ (Nat.le_of_ble_eq_true rfl) ?_
  obtain ⟨ev, L, H, img, kp, S, n, t⟩ := s
  have hB : MB I ev L := h.1
  refine Sat.of k_X9_wrong [] 60 ?_
  refine ⟨0, 117, by omega, Nat.le_refl _, (m_in I J w 0 (nI 1) 0).mono ?_⟩
  rintro r σ ⟨rfl, rfl⟩
  rw [inB_lit w 1 (by decide)]
  refine ⟨fun c => ⟨4, 117, by omega, Nat.le_refl _, (m_isWithout I J ev 0 L hB (by decide) 4 (by decide)).mono ?_⟩, fun c => ⟨rfl, trivial, ?_, I, rfl, h, frK.rf⟩⟩
  · rintro v σ ⟨I1, rfl, f1, rfl, _⟩
    obtain ⟨i, i1, rfl⟩ := isIn_of (bi_t c) (by decide)
    refine ⟨fun c1 => ?_, fun c1 => ⟨rfl, trivial, ?_, I1, rfl, h.fr f1, f1.K⟩⟩
    · have c1 := of_decide_eq_false (bi_f c1)
      refine ⟨fun c2 => ⟨5, 117, hd, Nat.le_refl _, (m_blame I1 J ev L (hB.fr f1) 5 (by decide)).mono ?_⟩, fun c2 => ⟨5, 117, hd, Nat.le_refl _, (m_quarrel I1 J ev L (hB.fr f1) 5 (by decide)).mono ?_⟩⟩
      · have c2 : ¬ nI i = 0 := c2
        have e1 : i = 1 := by
          rcases (show i = 0 ∨ i = 1 by omega) with e | e
          · exact absurd (by rw [e]; rfl) c2
          · exact e
        rintro v σ ⟨rfl, I2, rfl, f2⟩
        refine ⟨rfl, trivial, ?_, I2, rfl, h.fr (f1.tr f2), (f1.tr f2).K⟩
        unfold oWrong
        rw [if_neg c2, if_pos (by rw [e1]; rfl), if_neg c1]
      · have c2 : nI i = 0 := c2
        rintro v σ ⟨rfl, I2, rfl, f2⟩
        refine ⟨rfl, trivial, ?_, I2, rfl, h.fr (f1.tr f2), (f1.tr f2).K⟩
        unfold oWrong
        rw [if_pos c2, if_neg c1]
    · have c1 := of_decide_eq_true (bi_t c1)
      unfold oWrong
      rw [if_pos c1, if_pos c1]
      rcases (show i = 0 ∨ i = 1 by omega) with e | e
      · subst e
        rw [if_pos (show nI 0 = 0 from rfl)]
        rfl
      · subst e
        rw [if_neg (by decide), if_pos (show nI 1 = 1 from rfl)]
        rfl
  · have hb := bi_f c
    unfold oWrong
    rw [if_neg (fun e => by rw [e] at hb; exact absurd hb (by decide)), if_neg (fun e => by rw [e] at hb; exact absurd hb (by decide))]
