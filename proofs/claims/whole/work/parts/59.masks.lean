/-! The model: events, observations, histories counted -/
set_option maxRecDepth 10000 in
theorem m_isEvent (I : SI) (J : SJ) (ev : Nat) (x : Int32) (h : I 29 0 6 = nI ev) (h5 : ev ≤ 5) (d : Nat) (hd : 0 < d) : Tri d YX9_isEvent 117 [vr 29 0, vi x] (S0 I J) (fun r σ => σ = S0 I J ∧ r = some (vi (bi (isIn x ev)))) := by
  refine Tri.of (M := MX9_isEvent) k_X9_isEvent ⟨Nat.le_refl _, Nat.le_refl _⟩ (Nat.le_of_ble_eq_true rfl) ?_
  refine Sat.of k_X9_isEvent [] 60 ?_
  refine ⟨0, 117, hd, Nat.le_refl _, (m_in I J x 0 (I 29 0 6 - 1) 0).mono ?_⟩
  rintro r σ ⟨rfl, rfl⟩
  refine ⟨rfl, bi_01 _, rfl, ?_⟩
  rw [h, inB_in x ev (by omega)]
set_option maxRecDepth 10000 in
theorem m_areTwo (I : SI) (J : SJ) (ev : Nat) (x y : Int32) (h : I 29 0 6 = nI ev) (h5 : ev ≤ 5) (d : Nat) (hd : 1 < d) : Tri d YX9_areTwo 117 [vr 29 0, vi x, vi y] (S0 I J) (fun r σ => σ = S0 I J ∧ r = some (vi (bi (two x y ev)))) := by
  refine Tri.of (M := MX9_areTwo) k_X9_areTwo ⟨Nat.le_refl _, Nat.le_refl _⟩ (Nat.le_of_ble_eq_true rfl) ?_
  refine Sat.of k_X9_areTwo [] 60 ?_
  refine ⟨1, 117, hd, Nat.le_refl _, (m_isEvent I J ev x h h5 1 (by decide)).mono ?_⟩
  rintro r σ ⟨rfl, rfl⟩
  refine ⟨fun c1 => ⟨rfl, Or.inl rfl, rfl, ?_⟩, fun c1 => ⟨1, 117, hd, Nat.le_refl _, (m_isEvent I J ev y h h5 1 (by decide)).mono ?_⟩⟩
  · simp [two, bi_f c1, bi]
  rintro r σ ⟨rfl, rfl⟩
  refine ⟨fun c2 => ⟨rfl, Or.inl rfl, rfl, ?_⟩, fun c2 => ⟨fun c3 => ⟨rfl, Or.inl rfl, rfl, ?_⟩, fun c3 => ⟨rfl, Or.inr rfl, rfl, ?_⟩⟩⟩
  · simp [two, bi_f c2, bi]
  · simp [two, c3, bi]
  · simp [two, bi_t c1, bi_t c2, c3, bi]
set_option maxRecDepth 10000 in
theorem m_isObservation (I : SI) (J : SJ) (L : List Ob) (x : Int32) (h : RW I 30 0 L) (d : Nat) (hd : 0 < d) : Tri d YX9_isObservation 117 [vr 29 0, vi x] (S0 I J) (fun r σ => σ = S0 I J ∧ r = some (vi (bi (isIn x L.length)))) := by
  refine Tri.of (M := MX9_isObservation) k_X9_isObservation ⟨Nat.le_refl _, Nat.le_refl _⟩ (Nat.le_of_ble_eq_true rfl) ?_
  have h8 := h.2.1
  refine Sat.of k_X9_isObservation [] 60 ?_
  refine ⟨vp_in_nI (n := 0) (by decide) (by decide), 0, 117, hd, Nat.le_refl _, (m_in I J x 0 (nI L.length - 1) 0).to ?_ rfl ?_⟩
  · show [vi x, vi 0, vi (I 30 0 (nI 0).toNatClampNeg - 1)] = _
    rw [nI_clamp (by decide), h.1]
  rintro r σ ⟨rfl, rfl⟩
  refine ⟨rfl, bi_01 _, rfl, ?_⟩
  rw [inB_in x _ (by omega)]
set_option maxRecDepth 10000 in
theorem m_turned (I : SI) (J : SJ) (x : Int32) (d : Nat) (hd : 0 < d) : Tri d YX9_turned 117 [vr 29 0, vi x] (S0 I J) (fun r σ => r = some (vi (oTurned x)) ∧ σ = S0 I J) := by
  refine Tri.of (M := MX9_turned) k_X9_turned ⟨Nat.le_refl _, Nat.le_refl _⟩ (Nat.le_of_ble_eq_true rfl) ?_
  refine Sat.of k_X9_turned [] 60 ?_
  refine ⟨0, 117, hd, Nat.le_refl _, (m_in I J x 0 (nI 12) 0).mono ?_⟩
  rintro r σ ⟨rfl, rfl⟩
  rw [inB_lit x 12 (by decide)]
  refine ⟨fun c => ⟨rfl, trivial, ?_, rfl⟩, fun c => ⟨rfl, trivial, ?_, rfl⟩⟩
  · unfold oTurned
    rw [if_neg (by rw [bi_f c]; decide)]
  · unfold oTurned
    rw [if_pos (bi_t c)]
set_option maxRecDepth 10000 in
theorem m_composed (I : SI) (J : SJ) (a b : Int32) (hA : MC I) (d : Nat) (hd : 0 < d) : Tri d YX9_composed 117 [vr 29 0, vi a, vi b] (S0 I J) (fun r σ => r = some (vi (oComposed a b)) ∧ σ = S0 I J) := by
  refine Tri.of (M := MX9_composed) k_X9_composed ⟨Nat.le_refl _, Nat.le_refl _⟩ (Nat.le_of_ble_eq_true rfl) ?_
  refine Sat.of k_X9_composed [] 60 ?_
  refine ⟨0, 117, hd, Nat.le_refl _, (m_in I J a 0 (nI 8191) 0).mono ?_⟩
  rintro r σ ⟨rfl, rfl⟩
  rw [inB_lit a 8191 (by decide)]
  refine ⟨fun c => ⟨rfl, trivial, ?_, rfl⟩, fun c => ⟨0, 117, hd, Nat.le_refl _, (m_in I J b 0 (nI 8191) 0).mono ?_⟩⟩
  · unfold oComposed
    rw [if_neg (by rw [bi_f c, Bool.false_and]; decide)]
  · have ha := bi_t c
    rintro r σ ⟨rfl, rfl⟩
    rw [inB_lit b 8191 (by decide)]
    refine ⟨fun c1 => ⟨rfl, trivial, ?_, rfl⟩, fun c1 => ?_⟩
    · have hb := bi_f c1
      unfold oComposed
      rw [if_neg (by rw [hb, Bool.and_false]; decide)]
    · have hb := bi_t c1
      obtain ⟨i, i1, rfl⟩ := isIn_of ha (by decide)
      obtain ⟨j, j1, rfl⟩ := isIn_of hb (by decide)
      refine ⟨0, 117, hd, Nat.le_refl _, (m_composedOf I J i j hA i1 j1 0).mono ?_⟩
      rintro r σ ⟨rfl, rfl⟩
      refine ⟨rfl, trivial, ?_, rfl⟩
      unfold oComposed
      rw [if_pos (by rw [ha, hb]; rfl), nI_clamp (by omega), nI_clamp (by omega)]
set_option maxRecDepth 10000 in
theorem m_observed (I : SI) (J : SJ) (s : SS) (k w : Int32) (h : MR I s) (d : Nat) (hd : 1 < d) : Tri d YX9_observed 117 [vr 29 0, vi k, vi w] (S0 I J) (fun r σ => r = some (vi (oObserved s k w)) ∧ σ = S0 I J) := by
  refine Tri.of (M := MX9_observed) k_X9_observed ⟨Nat.le_refl _, Nat.le_refl _⟩ (Nat.le_of_ble_eq_true rfl) ?_
  obtain ⟨ev, L, H, img, kp, S, n, t⟩ := s
  have hR : RW I 30 0 L := h.1.2.2.2.1
  have h8 := hR.2.1
  refine Sat.of k_X9_observed [] 60 ?_
  refine ⟨1, 117, hd, Nat.le_refl _, (m_isObservation I J L k hR 1 (by decide)).mono ?_⟩
  rintro r σ ⟨rfl, rfl⟩
  refine ⟨fun c => ⟨rfl, trivial, ?_, rfl⟩, fun c => ⟨0, 117, by omega, Nat.le_refl _, (m_in I J w 0 (nI 2) 0).mono ?_⟩⟩
  · unfold oObserved
    rw [if_neg (by rw [bi_f c]; decide)]
  · have hk := bi_t c
    obtain ⟨j, j1, rfl⟩ := isIn_of hk (by omega)
    have ej : (nI j).toNatClampNeg = j := nI_clamp (by omega)
    have eo : oObserved (ev, L, H, img, kp, S, n, t) (nI j) w = (if w = 0 then nI (nthD L j (0, 0, 0)).1 else if w = 1 then nI (nthD L j (0, 0, 0)).2.2 else if w = 2 then nI (nthD L j (0, 0, 0)).2.1 else -1) := by
      unfold oObserved
      rw [if_pos hk, ej]
    rw [eo]
    rintro r σ ⟨rfl, rfl⟩
    rw [inB_lit w 2 (by decide)]
    refine ⟨fun c1 => ⟨rfl, trivial, ?_, rfl⟩, fun c1 => ⟨fun c2 => ⟨fun c3 => ⟨0, 117, by omega, Nat.le_refl _, (m_set I J L j hR j1 0).mono ?_⟩, fun c3 => ⟨0, 117, by omega, Nat.le_refl _, (m_y I J L j hR j1 0).mono ?_⟩⟩, fun c2 => ⟨0, 117, by omega, Nat.le_refl _, (m_x I J L j hR j1 0).mono ?_⟩⟩⟩
    · have hb := bi_f c1
      have n0 : ¬ w = 0 := fun e => by rw [e] at hb; exact absurd hb (by decide)
      have n1 : ¬ w = 1 := fun e => by rw [e] at hb; exact absurd hb (by decide)
      have n2 : ¬ w = 2 := fun e => by rw [e] at hb; exact absurd hb (by decide)
      rw [if_neg n0, if_neg n1, if_neg n2]
    · have c2 : ¬ w = 0 := c2
      have c3 : ¬ w = 1 := c3
      obtain ⟨i, i1, i2⟩ := isIn_of (bi_t c1) (by decide)
      have w2 : w = 2 := by
        have : i = 2 := by
          rcases (show i = 0 ∨ i = 1 ∨ i = 2 by omega) with e | e | e
          · exact absurd (by rw [i2, e]; rfl) c2
          · exact absurd (by rw [i2, e]; rfl) c3
          · exact e
        rw [i2, this]
        rfl
      rintro r σ ⟨rfl, rfl⟩
      refine ⟨rfl, trivial, ?_, rfl⟩
      rw [if_neg c2, if_neg c3, if_pos w2]
    · have c2 : ¬ w = 0 := c2
      have c3 : w = 1 := c3
      rintro r σ ⟨rfl, rfl⟩
      refine ⟨rfl, trivial, ?_, rfl⟩
      rw [if_neg c2, if_pos c3]
    · have c2 : w = 0 := c2
      rintro r σ ⟨rfl, rfl⟩
      refine ⟨rfl, trivial, ?_, rfl⟩
      rw [if_pos c2]
theorem CUR.fr {N : NF} {P k : Nat} {T : List HS} {I I1 : SI} (h : CUR N P T k I) (hf : I1 42 0 = I 42 0) : CUR N P T k I1 := by
  refine ⟨fun q hq => ?_, h.2⟩
  rw [hf]
  exact h.1 q hq
set_option maxRecDepth 10000 in
theorem m_many (I : SI) (J : SJ) (s : SS) (m : Int32) (h : MR I s) (d : Nat) (hd : 3 < d) : Tri d YX9_many 117 [vr 29 0, vi m] (S0 I J) (fun r σ => r = some (vi (oMany s m)) ∧ ∃ I1, σ = S0 I1 J ∧ MR I1 s ∧ frK I I1) := by
  refine Tri.of (M := MX9_many) k_X9_many ⟨Nat.le_refl _, Nat.le_refl _⟩ (Nat.le_of_ble_eq_true rfl) ?_
  obtain ⟨ev, L, H, img, kp, S, n, t⟩ := s
  have hB : MB I ev L := h.1
  have h5 := hB.2.2.1
  refine Sat.of k_X9_many [26] 60 ?_
  refine ⟨0, 117, by omega, Nat.le_refl _, (m_in I J m (nI 1) (nI 300) 0).mono ?_⟩
  rintro r σ ⟨rfl, rfl⟩
  rw [inB_bet m 1 300 (by decide) (by decide)]
  refine ⟨fun c => ?_, fun c => ⟨rfl, trivial, ?_, I, rfl, h, frK.rf⟩⟩
  · have e0 := bi_t c
    obtain ⟨w, w1, w2, rfl⟩ := isBet_t e0 (by decide) (by decide)
    have eo : oMany (ev, L, H, img, kp, S, n, t) (nI w) = nI (min (hst ev L 0).length w) := by
      unfold oMany
      rw [if_pos e0, nI_clamp (by omega)]
    rw [eo]
    refine ⟨2, 117, by omega, Nat.le_refl _, (m_lets I J ev 0 L hB (by decide) 2 (by decide)).mono ?_⟩
    rintro v σ ⟨rfl, I1, rfl, q1, q2⟩
    have h1 := hB.fr q2.M
    generalize hQ : (fun (r : Option AV) (σ : ST) => r = some (vi (nI (min (hst ev L 0).length w))) ∧ ∃ I1, σ = S0 I1 J ∧ MR I1 (ev, L, H, img, kp, S, n, t) ∧ frK I I1) = Q
    have done : ∀ (k : Nat) (I2 : SI), k = min (hst ev L 0).length w → frM I I2 → Sat none MX9_many d 117 Q 26 [some (vr 29 0), some (vi (nI w)), some (vi (nI k)), some (vi 0)] [] (S0 I2 J) := fun k I2 hk f1 => by
      refine Sat.of k_X9_many [26] 60 ?_
      refine ⟨fun _ => ⟨rfl, trivial, ?_⟩, fun q => absurd rfl q⟩
      rw [← hQ, hk]
      exact ⟨rfl, I2, rfl, h.fr f1, f1.K⟩
    have loop : ∀ (z k : Nat) (I2 : SI), k + z = w → 0 < z → k < (hst ev L 0).length → fr42 I1 I2 → CUR (tol L (Nat.testBit 0)) (PRb 0 ev) (hst ev L 0) k I2 → Sat none MX9_many d 117 Q 26 [some (vr 29 0), some (vi (nI w)), some (vi (nI k)), some (vi 1)] [] (S0 I2 J) := by
      intro z
      induction z with
      | zero => intro k I2 _ hz; exact absurd hz (by decide)
      | succ z ih =>
        intro k I2 hk _ hkl f1 f2
        refine Sat.of k_X9_many [26, 51] 60 ?_
        have h2 := h1.fr f1.M
        have s51 : ∀ (b : Bool) (I3 : SI), (b = true → Sat none MX9_many d 117 Q 26 [some (vr 29 0), some (vi (nI w)), some (vi (nI (k + 1))), some (vi 1)] [] (S0 I3 J)) → (b = false → Sat none MX9_many d 117 Q 26 [some (vr 29 0), some (vi (nI w)), some (vi (nI (k + 1))), some (vi 0)] [] (S0 I3 J)) → Sat none MX9_many d 117 Q 51 [some (vr 29 0), some (vi (nI w)), some (vi (nI (k + 1))), some (vi 1)] [vi (bi b)] (S0 I3 J) := fun b I3 ht hf => by
          refine Sat.of k_X9_many [26] 60 ?_
          cases b with
          | true => exact (ht rfl).to rfl rfl
          | false => exact (hf rfl).to rfl rfl
        refine ⟨fun q => absurd q (by decide), fun _ => ⟨fun c1 => ?_, fun c1 => ⟨3, 117, hd, Nat.le_refl _, (m_more1 I2 J ev k _ (hst ev L 0) h2.2.2.2.2.2 (q1.fr f1) h2.1 hB.2.1 h5 f2 3 (by decide)).mono ?_⟩⟩⟩
        · have c1 : nI w ≤ nI k + 1 := c1
          rw [nI_1, nI_leI (by omega) (by omega)] at c1
          refine Sat.to (s51 false I2 (fun q => absurd q (by decide)) (fun _ => done (k + 1) I2 (by omega) (q2.M.tr f1.M))) (by rw [← nI_1]; rfl) rfl
        · have c1 : ¬ nI w ≤ nI k + 1 := c1
          rw [nI_1, nI_leI (by omega) (by omega)] at c1
          rintro v σ ⟨I3, rfl, g1, rfl, g2⟩
          have f3 : fr42 I1 I3 := fun a b q => (g1 a b q).trans (f1 a b q)
          refine ⟨fun c2 => ?_, fun c2 => ?_⟩
          · have c2 := of_decide_eq_false (bi_f c2)
            refine Sat.to (s51 false I3 (fun q => absurd q (by decide)) (fun _ => done (k + 1) I3 (by omega) (q2.M.tr f3.M))) (by rw [← nI_1]; rfl) rfl
          · have c2 := of_decide_eq_true (bi_t c2)
            refine Sat.to (s51 true I3 (fun _ => ih (k + 1) I3 (by omega) (by omega) c2 f3 (g2 c2)) (fun q => absurd q (by decide))) (by rw [← nI_1]; rfl) rfl
    refine ⟨3, 117, hd, Nat.le_refl _, (m_first1 I1 J ev _ h1.2.2.2.2.2 q1 h1.1 hB.2.1 h5 3 (by decide)).mono ?_⟩
    rintro v σ ⟨I2, rfl, g1, rfl, g2⟩
    by_cases c2 : 0 < (hst ev L 0).length
    · have e1 : bi (decide (0 < (sols ev (tol L (Nat.testBit 0))).length)) = 1 := by
        have : 0 < (sols ev (tol L (Nat.testBit 0))).length := c2
        rw [decide_eq_true this]
        rfl
      rw [e1]
      exact (loop w 0 I2 (by omega) (by omega) c2 g1 (g2 c2)).to rfl rfl
    · have e1 : bi (decide (0 < (sols ev (tol L (Nat.testBit 0))).length)) = 0 := by
        have : ¬ 0 < (sols ev (tol L (Nat.testBit 0))).length := c2
        rw [decide_eq_false this]
        rfl
      rw [e1]
      exact (done 0 I2 (by omega) (q2.M.tr g1.M)).to rfl rfl
  · unfold oMany
    rw [if_neg (by rw [bi_f c]; decide)]
