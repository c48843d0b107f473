/-! The model: eldest -/
theorem eldB_el {ev e : Nat} {L : List Ob} (h5 : ev ≤ 5) (he : e < ev) : decide (0 < (sols ev (elN (tol L (Nat.testBit 0)) e)).length) = eldB ev (hst ev L 0) e := by
  rw [Bool.eq_iff_iff, decide_eq_true_eq, sols_pos h5]
  unfold hst
  rw [eldB_t h5 he]
  constructor
  · rintro ⟨l, hl⟩
    exact ⟨l, (el_good h5 he).mp hl⟩
  · rintro ⟨l, hl⟩
    exact ⟨l, (el_good h5 he).mpr hl⟩
theorem bgT_lt : ∀ r, r < 13 → bgT r < 31 ∧ enT r < 31 := by decide +kernel
set_option maxRecDepth 10000 in
theorem m_eldest (I : SI) (J : SJ) (s : SS) (h : MR I s) (d : Nat) (hd : 3 < d) : Tri d YX9_eldest 117 [vr 29 0] (S0 I J) (fun r σ => r = some (vi (oEldest s)) ∧ ∃ I1, σ = S0 I1 J ∧ MR I1 s ∧ frK I I1) := by
  refine Tri.of (M := MX9_eldest) k_X9_eldest ⟨Nat.le_refl _, Nat.le_refl _⟩ (Nat.le_of_ble_eq_true rfl) ?_
  obtain ⟨ev, L, H, img, kp, S, n, t⟩ := s
  have hB : MB I ev L := h.1
  have h5 := hB.2.2.1
  have h2 := hB.2.1
  have p10 := PRb0_le ev (by omega)
  generalize hQ : (fun (r : Option AV) (σ : ST) => r = some (vi (oEldest (ev, L, H, img, kp, S, n, t))) ∧ ∃ I1, σ = S0 I1 J ∧ MR I1 (ev, L, H, img, kp, S, n, t) ∧ frK I I1) = Q
  have eE : ∀ I1, frM I I1 → I1 29 0 6 = nI ev := fun I1 f => by rw [f 29 0 (by omega)]; exact hB.1
  have loop : ∀ (m e : Nat) (I1 : SI) (v3 v4 v5 : Option AV), e + m = ev → frM I I1 → Sat none MX9_eldest d 117 Q 4 [some (vr 29 0), some (vi (nI (eldN ev (hst ev L 0) e))), some (vi (nI e)), v3, v4, v5] [] (S0 I1 J) := by
    intro m
    induction m with
    | zero =>
      intro e I1 v3 v4 v5 he f
      have e1 : e = ev := by omega
      subst e1
      refine Sat.of k_X9_eldest [4, 19, 30, 57, 82] 60 ?_
      refine ⟨fun _ => ⟨rfl, trivial, ?_⟩, fun c => ?_⟩
      · rw [← hQ]
        exact ⟨rfl, I1, rfl, h.fr f, f.K⟩
      · have c : ¬ I1 29 0 6 ≤ nI e := c
        rw [eE I1 f] at c
        exact absurd (nI_le (Nat.le_refl _) (by omega)) c
    | succ m ih =>
      intro e I1 v3 v4 v5 he f
      have hpe : (1 : Int32) <<< (nI e &&& 31) = nI (2 ^ e) := nx_shl (by omega)
      generalize hN : tol L (Nat.testBit 0) = N
      -- what is done to the pairs
      have ploop : ∀ (z p : Nat) (I2 : SI) (w4 w5 : Option AV), p + z = PRb 0 ev → frM I I2 → (∀ q, q < PRb 0 ev → N (loT q) (hiT q) < 8192) → (∀ q, q < p → I2 41 0 q = nI (elN N e (loT q) (hiT q))) → (∀ q, p ≤ q → q < PRb 0 ev → I2 41 0 q = nI (N (loT q) (hiT q))) →
          Sat none MX9_eldest d 117 Q 19 [some (vr 29 0), some (vi (nI (eldN ev (hst ev L 0) e))), some (vi (nI e)), some (vi (nI p)), w4, w5] [] (S0 I2 J) := by
        intro z
        induction z with
        | zero =>
          intro p I2 w4 w5 hp f1 g0 g1 g2
          have e1 : p = PRb 0 ev := by omega
          subst e1
          refine Sat.of k_X9_eldest [4, 19, 30, 57, 82] 60 ?_
          refine ⟨0, 117, by omega, Nat.le_refl _, (m_pairs I2 J ev (eE I2 f1) h5 0).mono ?_⟩
          rintro v σ ⟨rfl, rfl⟩
          refine ⟨fun _ => ?_, fun c => absurd (nI_le (Nat.le_refl _) (by omega)) c⟩
          have hM : MAY I2 ev (elN N e) := fun q hq => ⟨g1 q hq, mkE_lt (g0 q hq)⟩
          refine ⟨3, 117, hd, Nat.le_refl _, (m_first1 I2 J ev _ (hB.fr f1).2.2.2.2.2 hM (eE I2 f1) h2 h5 3 (by decide)).mono ?_⟩
          rintro v σ ⟨I3, rfl, f2, rfl, _⟩
          have hel : decide (0 < (sols ev (elN N e)).length) = eldB ev (hst ev L 0) e := by
            rw [← hN]
            exact eldB_el h5 (by omega)
          have f3 : frM I I3 := f1.tr f2.M
          refine ⟨fun c => ?_, fun c => ?_⟩
          · have c : bi (decide (0 < (sols ev (elN N e)).length)) = 0 := c
            rw [hel] at c
            refine (ih (e + 1) I3 (some (vi (nI (PRb 0 ev)))) w4 w5 (by omega) f3).to ?_ rfl
            simp only [eldN]
            rw [if_neg (by rw [bi_f c]; decide)]
            show [some (vr 29 0), some (vi (nI (eldN ev (hst ev L 0) e) ||| nI 0)), some (vi (nI e + 1)), _, _, _] = _
            rw [nx_or, Nat.or_zero, nI_1]
          · have c : ¬ bi (decide (0 < (sols ev (elN N e)).length)) = 0 := c
            rw [hel] at c
            refine (ih (e + 1) I3 (some (vi (nI (PRb 0 ev)))) w4 w5 (by omega) f3).to ?_ rfl
            simp only [eldN]
            rw [if_pos (bi_t c)]
            show [some (vr 29 0), some (vi (nI (eldN ev (hst ev L 0) e) ||| (1 : Int32) <<< (nI e &&& 31))), some (vi (nI e + 1)), _, _, _] = _
            rw [hpe, nx_or, nI_1]
        | succ z ihp =>
          intro p I2 w4 w5 hp f1 g0 g1 g2
          have ep : (nI p).toNatClampNeg = p := nI_clamp (by omega)
          have hvp : vp_in (nI p) 10 := vp_in_nI (by omega) (by decide)
          obtain ⟨t1, t2, t3⟩ := lohi_t p (by omega)
          have hp8 := g0 p (by omega)
          generalize ha : N (loT p) (hiT p) = a at hp8
          have rloop : ∀ (y r : Nat) (I3 : SI) (w5 : Option AV), r + y = 13 → frM I I3 → (∀ q, q ≠ p → I3 41 0 q = I2 41 0 q) → I3 41 0 p = nI (mkE a (lateB e p) r) → Sat none MX9_eldest d 117 Q 30 [some (vr 29 0), some (vi (nI (eldN ev (hst ev L 0) e))), some (vi (nI e)), some (vi (nI p)), some (vi (nI r)), w5] [] (S0 I3 J) := by
            intro y
            induction y with
            | zero =>
              intro r I3 w5 hr f3 k1 k2
              have e1 : r = 13 := by omega
              subst e1
              refine Sat.of k_X9_eldest [4, 19, 30, 57, 82] 60 ?_
              refine ⟨fun _ => ?_, fun c => absurd (nI_le (a := 13) (b := 13) (by omega) (by omega)) c⟩
              refine (ihp (p + 1) I3 (some (vi (nI 13))) w5 (by omega) f3 g0 (fun q hq => ?_) (fun q hq1 hq2 => ?_)).to (by rw [← nI_1 p]; rfl) rfl
              · by_cases eq : q = p
                · subst eq
                  rw [k2]
                  unfold elN
                  rw [t3, ha]
                · rw [k1 q eq]
                  exact g1 q (by omega)
              · rw [k1 q (by omega)]
                exact g2 q (by omega) hq2
            | succ y ihr =>
              intro r I3 w5 hr f3 k1 k2
              have er : (nI r).toNatClampNeg = r := nI_clamp (by omega)
              have hvr : vp_in (nI r) 13 := vp_in_nI (by omega) (by decide)
              obtain ⟨b1, b2⟩ := bgT_lt r (by omega)
              have hbg : I3 38 0 (nI r).toNatClampNeg = nI (bgT r) := by
                rw [er, f3 38 0 (by omega)]
                exact hB.2.2.2.2.2.1 r (by omega)
              have hpr : (1 : Int32) <<< (nI r &&& 31) = nI (2 ^ r) := nx_shl (by omega)
              have s82 : ∀ b : Bool, b = lateB e p r → Sat none MX9_eldest d 117 Q 82 [some (vr 29 0), some (vi (nI (eldN ev (hst ev L 0) e))), some (vi (nI e)), some (vi (nI p)), some (vi (nI r)), w5] [vi (bi b)] (S0 I3 J) := fun b hb => by
                refine Sat.of k_X9_eldest [4, 19, 30, 57] 60 ?_
                have go : ∀ w : Nat, mkE a (lateB e p) r &&& w = mkE a (lateB e p) (r + 1) → Sat none MX9_eldest d 117 Q 30 [some (vr 29 0), some (vi (nI (eldN ev (hst ev L 0) e))), some (vi (nI e)), some (vi (nI p)), some (vi (nI r + 1)), some (vi (bi b))] [] (S0 (uI I3 41 0 p (nI (mkE a (lateB e p) r) &&& nI w)) J) := fun w hw => by
                  rw [nI_1, nx_an, hw]
                  refine ihr (r + 1) _ (some (vi (bi b))) (by omega) (fun x y q => by rw [uI_tt (by omega)]; exact f3 x y q) (fun q hq => by rw [uI_j hq]; exact k1 q hq) uI_at
                refine ⟨hvp, fun c => ⟨hvp, ?_⟩, fun c => ⟨hvp, ?_⟩⟩
                · have c := bi_f c
                  refine (go 8191 ?_).to rfl ?_
                  · simp only [mkE]
                    rw [if_neg (by rw [← hb, c]; decide)]
                  · show (uI I3 41 0 (nI p).toNatClampNeg (I3 41 0 (nI p).toNatClampNeg &&& 8191), J, 117, aT) = _
                    rw [ep, k2]
                    rfl
                · have c := bi_t c
                  refine (go (2 ^ r ^^^ 4294967295) ?_).to rfl ?_
                  · simp only [mkE]
                    rw [if_pos (by rw [← hb, c])]
                  · show (uI I3 41 0 (nI p).toNatClampNeg (I3 41 0 (nI p).toNatClampNeg &&& ((1 : Int32) <<< (nI r &&& 31) ^^^ (-1))), J, 117, aT) = _
                    rw [ep, k2, hpr, show (-1 : Int32) = nI 4294967295 from rfl, nx_xor]
              have s57 : (decide (loT p = e) && decide (10 < bgT r)) = false → Sat none MX9_eldest d 117 Q 57 [some (vr 29 0), some (vi (nI (eldN ev (hst ev L 0) e))), some (vi (nI e)), some (vi (nI p)), some (vi (nI r)), w5] [] (S0 I3 J) := fun hno => by
                refine Sat.of k_X9_eldest [4, 19, 30, 57, 82] 60 ?_
                refine ⟨0, 117, by omega, Nat.le_refl _, (m_highOf I3 J p (by omega) 0).mono ?_⟩
                rintro v σ ⟨rfl, rfl⟩
                refine ⟨fun c => s82 false ?_, fun c => ⟨hvr, fun c1 => s82 false ?_, fun c1 => s82 true ?_⟩⟩
                · have c : ¬ nI (hiT p) = nI e := c
                  unfold lateB
                  rw [hno, decide_eq_false (fun q => c (by rw [q]))]
                  rfl
                · have c1 : nI 10 ≤ I3 38 0 (nI r).toNatClampNeg := c1
                  rw [hbg, nI_leI (by decide) (by omega)] at c1
                  unfold lateB
                  rw [hno, decide_eq_false (show ¬ bgT r < 10 by omega), Bool.and_false]
                  rfl
                · have c : nI (hiT p) = nI e := c
                  rw [nI_eq (by omega) (by omega)] at c
                  have c1 : ¬ nI 10 ≤ I3 38 0 (nI r).toNatClampNeg := c1
                  rw [hbg, nI_leI (by decide) (by omega)] at c1
                  unfold lateB
                  rw [decide_eq_true c, decide_eq_true (show bgT r < 10 by omega)]
                  simp
              refine Sat.of k_X9_eldest [4, 19, 30, 57, 82] 60 ?_
              refine ⟨fun c => absurd ((nI_leI (a := 13) (by omega) (by omega)).mp c) (by omega), fun _ => ⟨1, 117, by omega, Nat.le_refl _, (m_lowOf I3 J p (by omega) 1 (by decide)).mono ?_⟩⟩
              rintro v σ ⟨rfl, rfl⟩
              refine ⟨fun c => s57 ?_, fun c => ⟨hvr, fun c1 => s82 true ?_, fun c1 => s57 ?_⟩⟩
              · have c : ¬ nI (loT p) = nI e := c
                rw [decide_eq_false (fun q => c (by rw [q]))]
                rfl
              · have c : nI (loT p) = nI e := c
                rw [nI_eq (by omega) (by omega)] at c
                have c1 : nI 10 < I3 38 0 (nI r).toNatClampNeg := c1
                rw [hbg, nI_ltI (by decide) (by omega)] at c1
                unfold lateB
                rw [decide_eq_true c, decide_eq_true c1]
                rfl
              · have c1 : ¬ nI 10 < I3 38 0 (nI r).toNatClampNeg := c1
                rw [hbg, nI_ltI (by decide) (by omega)] at c1
                rw [decide_eq_false c1, Bool.and_false]
          refine Sat.of k_X9_eldest [4, 19, 30, 57, 82] 60 ?_
          refine ⟨0, 117, by omega, Nat.le_refl _, (m_pairs I2 J ev (eE I2 f1) h5 0).mono ?_⟩
          rintro v σ ⟨rfl, rfl⟩
          refine ⟨fun c => absurd ((nI_leI (a := PRb 0 ev) (by omega) (by omega)).mp c) (by omega), fun _ => ?_⟩
          refine (rloop 13 0 I2 w5 (by omega) f1 (fun _ _ => rfl) ?_).to rfl rfl
          rw [g2 p (Nat.le_refl _) (by omega), ha]
          rfl
      refine Sat.of k_X9_eldest [4, 19, 30, 57, 82] 60 ?_
      refine ⟨fun c => ?_, fun _ => ⟨2, 117, by omega, Nat.le_refl _, (m_lets I1 J ev 0 L (hB.fr f) (by decide) 2 (by decide)).mono ?_⟩⟩
      · have c : I1 29 0 6 ≤ nI e := c
        rw [eE I1 f, nI_leI (by omega) (by omega)] at c
        omega
      · rintro v σ ⟨rfl, I2, rfl, q1, q2⟩
        have q1 : MAY I2 ev N := by rw [← hN]; exact q1
        exact (ploop (PRb 0 ev) 0 I2 v4 v5 (by omega) (f.tr q2.M) (fun q hq => (q1 q hq).2) (fun q hq => absurd hq (by omega)) (fun q _ hq => (q1 q hq).1)).to rfl rfl
  refine Sat.of k_X9_eldest [4] 60 ?_
  exact (loop ev 0 I none none none (by omega) frM.rf).to rfl rfl
