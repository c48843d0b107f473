/-! The model: unseen, eldest -/
set_option maxRecDepth 10000 in
theorem m_unseen (I : SI) (J : SJ) (s : SS) (h : MR I s) (d : Nat) (hd : 4 < d) : Tri d YX9_unseen 117 [vr 29 0] (S0 I J) (fun r σ => r = some (vi (oUnseen s)) ∧ ∃ I1, σ = S0 I1 J ∧ MR I1 s ∧ frK I I1) := by
  refine Tri.of (M := MX9_unseen) k_X9_unseen ⟨Nat.le_refl _, Nat.le_refl _⟩ (Nat.le_of_ble_eq_true rfl) ?_
  obtain ⟨ev, L, H, img, kp, S, n, t⟩ := s
  have hB : MB I ev L := h.1
  have h5 := hB.2.2.1
  have hR := hB.2.2.2.1
  have h8 := hR.2.1
  have hS : MSN I S := h.2.2.2.2.2.2.1
  have hSw : WFs ev S := h.2.2.2.2.2.2.2.1
  have hS6 := hS.2.1
  have e0 : ∀ I1, frM I I1 → I1 30 0 (nI 0).toNatClampNeg = nI L.length := fun I1 f => by rw [nI_clamp (by decide), f 30 0 (by omega)]; exact hR.1
  have eS : ∀ I1, frM I I1 → I1 29 0 10 = nI S.length := fun I1 f => by rw [f 29 0 (by omega)]; exact hS.1
  generalize hQ : (fun (r : Option AV) (σ : ST) => r = some (vi (oUnseen (ev, L, H, img, kp, S, n, t))) ∧ ∃ I1, σ = S0 I1 J ∧ MR I1 (ev, L, H, img, kp, S, n, t) ∧ frK I I1) = Q
  have loop : ∀ (m k : Nat) (I1 : SI) (v w : Option AV), k + m = L.length → frM I I1 → Sat none MX9_unseen d 117 Q 4 [some (vr 29 0), some (vi (nI (sus ev L S k))), some (vi (nI k)), v, w] [] (S0 I1 J) := by
    intro m
    induction m with
    | zero =>
      intro k I1 v w hk f
      have e : k = L.length := by omega
      subst e
      refine Sat.of k_X9_unseen [4, 36, 40, 93] 60 ?_
      refine ⟨vp_in_nI (n := 0) (by decide) (by decide), fun _ => ⟨rfl, trivial, ?_⟩, fun c => ?_⟩
      · rw [← hQ]
        exact ⟨rfl, I1, rfl, h.fr f, f.K⟩
      · have c : ¬ I1 30 0 (nI 0).toNatClampNeg ≤ nI L.length := c
        rw [e0 I1 f] at c
        exact absurd (nI_le (Nat.le_refl _) (by omega)) c
    | succ m ih =>
      intro k I1 v w hk f
      have hp := p2_8 (k := k) (by omega)
      have hpk : (1 : Int32) <<< (nI k &&& 31) = nI (2 ^ k) := nx_shl (by omega)
      refine Sat.of k_X9_unseen [4, 36, 40, 93] 60 ?_
      refine ⟨vp_in_nI (n := 0) (by decide) (by decide), fun c => ?_, fun _ => ⟨4, 117, hd, Nat.le_refl _, (m_isWithout I1 J ev (2 ^ k) L (hB.fr f) hp 4 (by decide)).to ?_ rfl ?_⟩⟩
      · have c : I1 30 0 (nI 0).toNatClampNeg ≤ nI k := c
        rw [e0 I1 f, nI_leI (by omega) (by omega)] at c
        omega
      · show [vr 29 0, vi ((1 : Int32) <<< (nI k &&& 31))] = _
        rw [hpk]
      · rintro v1 σ ⟨I2, rfl, f2, rfl, hT⟩
        have f12 := f.tr f2
        generalize hTk : hst ev L (2 ^ k) = T at hT
        generalize hfz : (fun j => decide (relH (nthD T 0 h00) (nthD S j (0, 0, 0)).1 (nthD S j (0, 0, 0)).2.2 = (nthD S j (0, 0, 0)).2.1)) = g
        generalize hb1 : (decide (0 < T.length) || decide (S.length = 0)) = b1
        have hsus : susp ev L S k = (b1 && allN S.length g) := by
          unfold susp soIn
          rw [hTk, hfz, ← hb1]
          by_cases q : S.length = 0
          · rw [decide_eq_true q, q]
            simp [allN]
          · rw [decide_eq_false q]
            simp
        have s93 : ∀ (b : Bool) (w2 : Option AV), b = susp ev L S k → Sat none MX9_unseen d 117 Q 93 [some (vr 29 0), some (vi (nI (sus ev L S k))), some (vi (nI k)), some (vi (bi b)), w2] [] (S0 I2 J) := fun b w2 hb => by
          refine Sat.of k_X9_unseen [4] 60 ?_
          refine ⟨fun c => ?_, fun c => ?_⟩
          · have c := bi_f c
            refine (ih (k + 1) I2 (some (vi (bi b))) w2 (by omega) f12).to ?_ rfl
            simp only [sus]
            rw [if_neg (by rw [← hb, c]; decide)]
            show [some (vr 29 0), some (vi (nI (sus ev L S k) ||| nI 0)), some (vi (nI k + 1)), _, _] = _
            rw [nx_or, Nat.or_zero, nI_1]
          · have c := bi_t c
            refine (ih (k + 1) I2 (some (vi (bi b))) w2 (by omega) f12).to ?_ rfl
            simp only [sus]
            rw [if_pos (by rw [← hb, c])]
            show [some (vr 29 0), some (vi (nI (sus ev L S k) ||| (1 : Int32) <<< (nI k &&& 31))), some (vi (nI k + 1)), _, _] = _
            rw [hpk, nx_or, nI_1]
        have inner : ∀ (z j : Nat), j + z = S.length → Sat none MX9_unseen d 117 Q 40 [some (vr 29 0), some (vi (nI (sus ev L S k))), some (vi (nI k)), some (vi (bi (b1 && allN j g))), some (vi (nI j))] [] (S0 I2 J) := by
          intro z
          induction z with
          | zero =>
            intro j hj
            have e : j = S.length := by omega
            subst e
            refine Sat.of k_X9_unseen [4, 36, 40, 93] 60 ?_
            refine ⟨fun _ => s93 _ _ hsus.symm, fun c => ?_⟩
            have c : ¬ I2 29 0 10 ≤ nI S.length := c
            rw [eS I2 f12] at c
            exact absurd (nI_le (Nat.le_refl _) (by omega)) c
          | succ z ihz =>
            intro j hj
            have ej : (nI j).toNatClampNeg = j := nI_clamp (by omega)
            obtain ⟨x1, x2, x3⟩ := hS.2.2 j (by omega)
            obtain ⟨y1, y2, y3, y4⟩ := hSw j (by omega)
            have hv : vp_in (nI j) 6 := vp_in_nI (by omega) (by decide)
            refine Sat.of k_X9_unseen [4, 36, 40, 86, 93] 60 ?_
            refine ⟨fun c => ?_, fun _ => ⟨fun c => s93 _ _ ?_, fun c => ⟨hv, hv, ?_⟩⟩⟩
            · have c : I2 29 0 10 ≤ nI j := c
              rw [eS I2 f12, nI_leI (by omega) (by omega)] at c
              omega
            · have c := bi_f c
              rw [c, hsus]
              cases h3 : (b1 && allN S.length g) with
              | false => rfl
              | true =>
                rw [Bool.and_eq_true] at h3
                have h4 : allN j g = true := allN_t.mpr (fun i hi => (allN_t.mp h3.2) i (by omega))
                rw [h3.1, h4] at c
                exact c.symm
            · have c := bi_t c
              have cc := c
              rw [Bool.and_eq_true, ← hb1, Bool.or_eq_true, decide_eq_true_eq, decide_eq_true_eq] at c
              have hpos : 0 < T.length := by
                rcases c.1 with q | q
                · exact q
                · omega
              refine ⟨1, 117, by omega, Nat.le_refl _, (m_triedOf I2 J ev _ _ _ (hT hpos) h5 y1 y2 y3 1 (by decide)).to ?_ rfl ?_⟩
              · show [vr 29 0, vi (I2 35 0 (nI j).toNatClampNeg), vi (I2 37 0 (nI j).toNatClampNeg)] = _
                rw [ej, f12 35 0 (by omega), f12 37 0 (by omega), x1, x3]
              · rintro v2 σ ⟨rfl, rfl⟩
                have hr13 : relH (nthD T 0 h00) (nthD S j (0, 0, 0)).1 (nthD S j (0, 0, 0)).2.2 < 13 := by
                  refine relH_lt (fun q => ?_)
                  exact (hT hpos _ (pr0_lt ev (by omega) _ y2 _ q)).2
                have s86 : ∀ b : Bool, b = g j → Sat none MX9_unseen d 117 Q 86 [some (vr 29 0), some (vi (nI (sus ev L S k))), some (vi (nI k)), some (vi (bi (b1 && allN j g))), some (vi (nI j))] [vi (bi b)] (S0 I2 J) := fun b hb => by
                  refine Sat.of k_X9_unseen [40] 60 ?_
                  refine (ihz (j + 1) (by omega)).to ?_ rfl
                  have : (b1 && allN (j + 1) g) = b := by
                    simp only [allN]
                    rw [← Bool.and_assoc, cc, Bool.true_and, hb]
                  rw [this, ← nI_1]
                  rfl
                refine ⟨hv, fun c2 => s86 false ?_, fun c2 => s86 true ?_⟩
                · have c2 : ¬ nI (relH (nthD T 0 h00) (nthD S j (0, 0, 0)).1 (nthD S j (0, 0, 0)).2.2) = I2 36 0 (nI j).toNatClampNeg := c2
                  rw [ej, f12 36 0 (by omega), x2] at c2
                  rw [← hfz]
                  exact (decide_eq_false (fun e => c2 (by rw [e]))).symm
                · have c2 : nI (relH (nthD T 0 h00) (nthD S j (0, 0, 0)).1 (nthD S j (0, 0, 0)).2.2) = I2 36 0 (nI j).toNatClampNeg := c2
                  rw [ej, f12 36 0 (by omega), x2, nI_eq (by omega) (by omega)] at c2
                  rw [← hfz]
                  exact (decide_eq_true c2).symm
        have s36 : ∀ b : Bool, b = b1 → Sat none MX9_unseen d 117 Q 36 [some (vr 29 0), some (vi (nI (sus ev L S k))), some (vi (nI k)), v, w] [vi (bi b)] (S0 I2 J) := fun b hb => by
          subst hb
          refine Sat.of k_X9_unseen [40] 60 ?_
          refine (inner S.length 0 (by omega)).to ?_ rfl
          simp only [allN, Bool.and_true]
          rfl
        refine ⟨fun c => s36 true ?_, fun c => ⟨fun c1 => s36 false ?_, fun c1 => s36 true ?_⟩⟩
        · rw [← hb1, bi_t c]
          rfl
        · have c1 : ¬ I2 29 0 10 = nI 0 := c1
          rw [eS I2 f12] at c1
          rw [← hb1, bi_f c, decide_eq_false (fun e => c1 (by rw [e]))]
          rfl
        · have c1 : I2 29 0 10 = nI 0 := c1
          rw [eS I2 f12, nI_eq (by omega) (by decide)] at c1
          rw [← hb1, decide_eq_true c1, Bool.or_true]
  refine Sat.of k_X9_unseen [4] 60 ?_
  exact (loop L.length 0 I none none (by omega) frM.rf).to rfl rfl
theorem GOOD.sub {N N1 : NF} {P : Nat} {l : HS} (h : GOOD N P l) (hb : ∀ q, q < P → (N1 (loT q) (hiT q)).testBit (l q) = true) : GOOD N1 P l := fun q hq => by
  obtain ⟨h1, h2⟩ := h q hq
  refine ⟨h1, ?_⟩
  unfold agP agX at h2 ⊢
  rw [Bool.and_eq_true] at h2 ⊢
  exact ⟨hb q hq, h2.2⟩
theorem GOOD.bt {N : NF} {P : Nat} {l : HS} (h : GOOD N P l) {q : Nat} (hq : q < P) : (N (loT q) (hiT q)).testBit (l q) = true := by
  have := (h q hq).2
  unfold agP agX at this
  rw [Bool.and_eq_true] at this
  exact this.1
/-- too late to be the eldest -/
def lateB (e p r : Nat) : Bool := (decide (loT p = e) && decide (10 < bgT r)) || (decide (hiT p = e) && decide (bgT r < 10))
def mkE (a : Nat) (f : Nat → Bool) : Nat → Nat
  | 0 => a
  | r + 1 => mkE a f r &&& (if f r then 2 ^ r ^^^ 4294967295 else 8191)
theorem mkE_lt {a : Nat} {f : Nat → Bool} (h : a < 8192) : ∀ {r : Nat}, mkE a f r < 8192
  | 0 => h
  | _ + 1 => and_lt13 (mkE_lt h)
theorem ff_tab : ∀ r, r < 13 → ∀ c, c < 13 → (2 ^ r ^^^ 4294967295 : Nat).testBit c = decide (c ≠ r) := by decide +kernel
theorem mkE_bit {a : Nat} {f : Nat → Bool} {c : Nat} (hc : c < 13) : ∀ {r : Nat}, r ≤ 13 → ((mkE a f r).testBit c = true ↔ a.testBit c = true ∧ (c < r → f c = false))
  | 0, _ => ⟨fun h => ⟨h, fun q => absurd q (by omega)⟩, fun h => h.1⟩
  | r + 1, hr => by
    simp only [mkE]
    rw [Nat.testBit_and, Bool.and_eq_true, mkE_bit hc (r := r) (by omega)]
    by_cases e : f r = true
    · rw [if_pos e, ff_tab r (by omega) c hc, decide_eq_true_eq]
      constructor
      · rintro ⟨⟨q1, q2⟩, q3⟩
        exact ⟨q1, fun q => q2 (by omega)⟩
      · rintro ⟨q1, q2⟩
        refine ⟨⟨q1, fun q => q2 (by omega)⟩, fun q => ?_⟩
        subst q
        rw [q2 (by omega)] at e
        exact absurd e (by decide)
    · have e1 : f r = false := by simpa using e
      rw [if_neg e]
      constructor
      · rintro ⟨⟨q1, q2⟩, q3⟩
        refine ⟨q1, fun q => ?_⟩
        by_cases ec : c = r
        · rw [ec]; exact e1
        · exact q2 (by omega)
      · rintro ⟨q1, q2⟩
        exact ⟨⟨q1, fun q => q2 (by omega)⟩, bit_all hc⟩
def elN (N : NF) (e : Nat) : NF := fun x y => mkE (N x y) (lateB e (PRb x y)) 13
theorem el_tab : ∀ r, r < 13 → ((975 : Nat).testBit r = decide (bgT r ≤ 10)) ∧ ((975 : Nat).testBit (12 - r) = decide (10 ≤ bgT r)) := by decide +kernel
theorem el_good {ev e : Nat} {N : NF} (h5 : ev ≤ 5) (he : e < ev) {l : HS} : GOOD (elN N e) (PRb 0 ev) l ↔ GOOD N (PRb 0 ev) l ∧ eld1 ev l e ev = true := by
  have p10 := PRb0_le ev (by omega)
  have key : ∀ q, q < PRb 0 ev → l q < 13 → ((elN N e (loT q) (hiT q)).testBit (l q) = true ↔ (N (loT q) (hiT q)).testBit (l q) = true ∧ lateB e q (l q) = false) := fun q hq h13 => by
    obtain ⟨t1, t2, t3⟩ := lohi_t q (by omega)
    unfold elN
    rw [mkE_bit h13 (Nat.le_refl _), t3]
    exact ⟨fun z => ⟨z.1, z.2 h13⟩, fun z => ⟨z.1, fun _ => z.2⟩⟩
  constructor
  · intro h
    have hg : GOOD N (PRb 0 ev) l := h.sub (fun q hq => ((key q hq (h q hq).1).mp (h.bt hq)).1)
    refine ⟨hg, ?_⟩
    unfold eld1
    rw [allN_t]
    intro y hy
    rw [Bool.or_eq_true, decide_eq_true_eq]
    by_cases ey : e = y
    · exact Or.inl ey
    · refine Or.inr ?_
      rcases Nat.lt_or_gt_of_ne ey with q | q
      · have hq := pr0_lt ev (by omega) y hy e q
        have h13 := (h _ hq).1
        obtain ⟨w1, w2⟩ := lohi_of y (by omega) e q
        have := ((key _ hq h13).mp (h.bt hq)).2
        unfold lateB at this
        rw [w1, w2, decide_eq_true rfl, Bool.true_and, Bool.or_eq_false_iff, decide_eq_false_iff_not] at this
        unfold relH
        rw [if_pos q, (el_tab _ h13).1, decide_eq_true_eq]
        omega
      · have hq := pr0_lt ev (by omega) e he y q
        have h13 := (h _ hq).1
        obtain ⟨w1, w2⟩ := lohi_of e (by omega) y q
        have := ((key _ hq h13).mp (h.bt hq)).2
        unfold lateB at this
        rw [w1, w2, decide_eq_true rfl, Bool.true_and, Bool.or_eq_false_iff, decide_eq_false_iff_not] at this
        unfold relH
        rw [if_neg (by omega), (el_tab _ h13).2, decide_eq_true_eq]
        omega
  · rintro ⟨h, h1⟩
    refine h.sub (fun q hq => ?_)
    have h13 := (h q hq).1
    obtain ⟨t1, t2, t3⟩ := lohi_t q (by omega)
    have hhi := hiT_lt ev (by omega) q (by omega) hq
    rw [key q hq h13]
    refine ⟨h.bt hq, ?_⟩
    unfold eld1 at h1
    rw [allN_t] at h1
    unfold lateB
    rw [Bool.or_eq_false_iff, Bool.and_eq_false_iff, Bool.and_eq_false_iff, decide_eq_false_iff_not, decide_eq_false_iff_not, decide_eq_false_iff_not, decide_eq_false_iff_not]
    constructor
    · by_cases ee : loT q = e
      · refine Or.inr ?_
        have := h1 (hiT q) hhi
        rw [Bool.or_eq_true, decide_eq_true_eq] at this
        rcases this with z | z
        · omega
        · unfold relH at z
          rw [if_pos (by omega), ← ee, t3, (el_tab _ h13).1, decide_eq_true_eq] at z
          omega
      · exact Or.inl ee
    · by_cases ee : hiT q = e
      · refine Or.inr ?_
        have := h1 (loT q) (by omega)
        rw [Bool.or_eq_true, decide_eq_true_eq] at this
        rcases this with z | z
        · omega
        · unfold relH at z
          rw [if_neg (by omega), ← ee, t3, (el_tab _ h13).2, decide_eq_true_eq] at z
          omega
      · exact Or.inl ee
