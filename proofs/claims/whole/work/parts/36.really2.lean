/-! Findings: reallyNet -/
theorem rly_of {ev : Nat} {L : List Ob} {N : NF} (h5 : ev ≤ 5) (hW : WT ev L N) (hN : ∀ a, a < ev → N a a = 64) (hpos : 0 < (hst ev L 0).length) (hD : ∀ x y c, x < y → y < ev → c < 13 → (∃ l, GOOD (tol L (Nat.testBit 0)) (PRb 0 ev) l ∧ relH l x y = c) → (N x y).testBit c = true) {x y : Nat} (hx : x < ev) (hy : y < ev) : N x y = rly (hst ev L 0) x y := by
  unfold rly
  by_cases e : x = y
  · subst e
    rw [if_pos rfl, if_neg (by omega), hN x hx]
  · rw [if_neg e]
    refine Nat.eq_of_testBit_eq fun c => ?_
    rw [Bool.eq_iff_iff, orL_bit]
    constructor
    · intro h
      obtain ⟨l, g1, g2⟩ := hW.2 x y hx hy e c h
      obtain ⟨l1, m1, m2⟩ := sols_all h5 g1
      exact ⟨l1, m1, by rw [relH_congr h5 m2 hx hy e]; exact g2⟩
    · rintro ⟨l, m1, m2⟩
      have g1 := sols_good h5 m1
      have h13 := g1.l13 h5
      have hc : c < 13 := by rw [← m2]; exact h13.rel hx hy
      rcases Nat.lt_or_gt_of_ne e with q | q
      · exact hD x y c q hy hc ⟨l, g1, m2⟩
      · rw [(hW.1 y x hy hx).2 (Ne.symm e), trn_bit]
        refine ⟨hc, hD y x (12 - c) q hx (by omega) ⟨l, g1, ?_⟩⟩
        rw [relH_sw h13 hx hy e, m2]
set_option maxRecDepth 10000 in
theorem c_reallyNet (I : SI) (J : SJ) (ev : Nat) (L : List Ob) (h : FI I J ev L) (hFR : FR I ev L) (d : Nat) (hd : 20 < d) : Tri d YX2_reallyNet 117 [vr 7 0] (S0 I J) (fun r σ => r = some (vr 16 2) ∧ ∃ I1 J1, σ = S0 I1 J1 ∧ FI I1 J1 ev L ∧ FR I1 ev L ∧ FIr I1 ev L ∧ frF I I1) := by
  refine Tri.of (M := MX2_reallyNet) k_X2_reallyNet ⟨Nat.le_refl _, Nat.le_refl _⟩ (Nat.le_of_ble_eq_true rfl) ?_
  have h2 := h.2.1.2.2.2.1
  have h5 := h.2.1.2.2.2.2.1
  have hw := h.2.2.1
  have p10 := PRb0_le ev (by omega)
  obtain ⟨kr, kr1, kr2⟩ := hFR
  generalize hQ : (fun (r : Option AV) (σ : ST) => r = some (vr 16 2) ∧ ∃ I1 J1, σ = S0 I1 J1 ∧ FI I1 J1 ev L ∧ FR I1 ev L ∧ FIr I1 ev L ∧ frF I I1) = Q
  have outer : ∀ (n p : Nat) (I1 : SI) (J1 : SJ) (N : NF) (v : Option AV), p + n = PRb 0 ev → 0 < (hst ev L 0).length → RN I1 2 ev N → WT ev L N → (∀ a, a < ev → N a a = 64) → FI I1 J1 ev L → FIc I1 J1 ev L → frF I I1 → I1 7 0 9 = 1 → (∀ q c, q < p → c < 13 → (∃ l, GOOD (tol L (Nat.testBit 0)) (PRb 0 ev) l ∧ relH l (loT q) (hiT q) = c) → (N (loT q) (hiT q)).testBit c = true) → Sat none MX2_reallyNet d 117 Q 47 [some (vr 7 0), some (vi (nI p)), v] [] (S0 I1 J1) := by
    intro n
    induction n with
    | zero =>
      intro p I1 J1 N v hp hpos f1 f2 f3 f4 f5 f6 f7 f8
      have e : p = PRb 0 ev := by omega
      subst e
      refine Sat.of k_X2_reallyNet [47, 63] 60 ?_
      refine ⟨0, 117, by omega, Nat.le_refl _, (c_pairsOf I1 J1 ev (by omega) 0).to ?_ rfl ?_⟩
      · show [vi (I1 3 1 4)] = _
        rw [f4.2.1.1]
      rintro r σ ⟨rfl, rfl⟩
      refine ⟨fun c => ⟨rfl, rfl, ?_⟩, fun c => absurd (nI_le (a := PRb 0 ev) (b := PRb 0 ev) (Nat.le_refl _) (by omega)) c⟩
      have hr : FIr I1 ev L := fun x y hx hy => by
        rw [(f1 x y hx hy).1, rly_of h5 f2 f3 hpos (fun x y c hxy hy hc => ?_) hx hy]
        have hq := pr0_lt ev (by omega) y hy x hxy
        have := f8 (PRb x y) c hq hc
        rw [(lohi_of y (by omega) x hxy).1, (lohi_of y (by omega) x hxy).2] at this
        exact this
      rw [← hQ]
      exact ⟨rfl, I1, J1, rfl, f4, ⟨true, f7, fun _ => hr⟩, hr, f6⟩
    | succ n ih =>
      intro p I1 J1 N v hp hpos f1 f2 f3 f4 f5 f6 f7 f8
      obtain ⟨t1, t2, t3⟩ := lohi_t p (by omega)
      have hhi : hiT p < ev := by
        have : ∀ ev, ev < 6 → ∀ q, q < 10 → q < PRb 0 ev → hiT q < ev := by decide +kernel
        exact this ev (by omega) p (by omega) (by omega)
      have inner : ∀ (n2 r : Nat) (I2 : SI) (J2 : SJ) (N2 : NF), r + n2 = 13 → RN I2 2 ev N2 → WT ev L N2 → (∀ a, a < ev → N2 a a = 64) → FI I2 J2 ev L → FIc I2 J2 ev L → frF I I2 → I2 7 0 9 = 1 → (∀ q c, q < p ∨ (q = p ∧ c < r) → c < 13 → (∃ l, GOOD (tol L (Nat.testBit 0)) (PRb 0 ev) l ∧ relH l (loT q) (hiT q) = c) → (N2 (loT q) (hiT q)).testBit c = true) → Sat none MX2_reallyNet d 117 Q 63 [some (vr 7 0), some (vi (nI p)), some (vi (nI r))] [] (S0 I2 J2) := by
        intro n2
        induction n2 with
        | zero =>
          intro r I2 J2 N2 hr g1 g2 g3 g4 g5 g6 g7 g8
          refine Sat.of k_X2_reallyNet [47, 63] 60 ?_
          refine ⟨fun c => (ih (p + 1) I2 J2 N2 (some (vi (nI r))) (by omega) hpos g1 g2 g3 g4 g5 g6 g7 (fun q c hq hc => g8 q c (by omega) hc)).to (by rw [← nI_1]; rfl) rfl, fun c => absurd (nI_le (a := 13) (b := r) (by omega) (by omega)) c⟩
        | succ n2 ih2 =>
          intro r I2 J2 N2 hr g1 g2 g3 g4 g5 g6 g7 g8
          have ep : (nI p).toNatClampNeg = p := nI_clamp (by omega)
          refine Sat.of k_X2_reallyNet [47, 63] 60 ?_
          refine ⟨fun c => absurd ((nI_leI (a := 13) (by omega) (by omega)).mp c) (by omega), fun c => ⟨vp_in_nI (by omega) (by decide), vp_in_nI (by omega) (by decide), 20, 117, hd, Nat.le_refl _, (c_tryRelation I2 J2 ev (loT p) r (hiT p) L N2 g4 g5 hpos g1 g2 g3 t1 hhi (by omega) 20 (by decide)).to ?_ rfl ?_⟩⟩
          · show [vr 7 0, vi (nthD c60 (nI p).toNatClampNeg 0), vi (nI r), vi (nthD c61 (nI p).toNatClampNeg 0)] = _
            rw [ep, c60_t p (by omega), c61_t p (by omega)]
          · rintro v σ ⟨rfl, I3, J3, N3, rfl, ⟨k1, k2, k3, k4, k5, k6, k7, k8⟩, k9⟩
            refine (ih2 (r + 1) I3 J3 N3 (by omega) k1 k2 k4 k5 k6 (g6.tr k7) (by rw [k8]; exact g7) (fun q c hq hc hex => ?_)).to (by rw [← nI_1]; rfl) rfl
            by_cases e : q = p ∧ c = r
            · obtain ⟨rfl, rfl⟩ := e
              exact k9 hex
            · obtain ⟨tq1, tq2, _⟩ := lohi_t q (by omega)
              have hq2 : hiT q < ev := by
                have : ∀ ev, ev < 6 → ∀ q, q < 10 → q < PRb 0 ev → hiT q < ev := by decide +kernel
                exact this ev (by omega) q (by omega) (by omega)
              exact k3 _ _ (by omega) hq2 (by omega) c (g8 q c (by omega) hc hex)
      refine Sat.of k_X2_reallyNet [47, 63] 60 ?_
      refine ⟨0, 117, by omega, Nat.le_refl _, (c_pairsOf I1 J1 ev (by omega) 0).to ?_ rfl ?_⟩
      · show [vi (I1 3 1 4)] = _
        rw [f4.2.1.1]
      rintro r σ ⟨rfl, rfl⟩
      exact ⟨fun c => absurd ((nI_leI (a := PRb 0 ev) (by omega) (by omega)).mp c) (by omega), fun c => inner 13 0 I1 J1 N (by omega) f1 f2 f3 f4 f5 f6 f7 (fun q c hq hc => f8 q c (by omega) hc)⟩
  refine Sat.of k_X2_reallyNet [47, 63] 60 ?_
  refine ⟨fun c => ⟨Or.inr rfl, 0, 117, by omega, Nat.le_refl _, (c_emptyR (uI I 7 0 9 1) J 2 0).mono ?_⟩, fun c => ⟨rfl, rfl, ?_⟩⟩
  · rintro r σ ⟨rfl, I1, rfl, e1, e2⟩
    have hfF : frF I (uI I 7 0 9 1) := fun t k hk => by rw [uI_ne (fun q => hk (by cases q; decide))]
    have hF1 : FI (uI I 7 0 9 1) J ev L := by
      obtain ⟨a1, a2, a3, kc, a4, a6⟩ := h
      refine ⟨?_, ?_, a3, kc, by rw [uI_j (by decide)]; exact a4, fun q => (a6 q).k (uI_tt (by decide)) (uI_tt (by decide)) (uI_tt (by decide)) (uI_tt (by decide)) rfl⟩
      · unfold ALG at a1 ⊢
        rw [uI_tt (by decide), uI_tt (by decide)]
        exact a1
      · unfold BK at a2 ⊢
        rw [uI_tt (by decide), uI_tt (by decide), uI_tt (by decide), uI_tt (by decide)]
        exact a2
    have hF2 := hF1.fr2 e2
    refine ⟨20, 117, hd, Nat.le_refl _, (c_findHistories I1 J ev 1 L hF2 (by decide) (by decide) 20 (by decide)).mono ?_⟩
    rintro r σ ⟨rfl, I2, J2, rfl, k1, k2, ⟨w, k3, k3'⟩, k4, k5⟩
    have hR2 : RN I2 2 ev (fun _ _ => 0) := fun x y hx hy => ⟨by rw [k5.2.1, e1 _ (by omega)]; rfl, show (0 : Nat) < 8192 by decide⟩
    have hflag : I2 7 0 9 = 1 := by rw [k5.1, e2 7 0 (by omega), uI_at]
    have hfr2 : frF I I2 := (hfF.tr e2.F).tr k4
    refine ⟨fun c1 => ?_, fun c1 => ⟨rfl, rfl, ?_⟩⟩
    · have c1 : ¬ nI (min (hst ev L 0).length 1) = nI 0 := c1
      have hpos : 0 < (hst ev L 0).length := by
        rcases Nat.eq_zero_or_pos (hst ev L 0).length with q | q
        · exact absurd (by rw [q]; rfl) c1
        · exact q
      have hl1 : 0 < ((hst ev L 0).take w).length := by omega
      refine ⟨2, 117, by omega, Nat.le_refl _, (c_mark I2 J2 0 ev (fun _ _ => 0) _ k1.1 k1.2.1.1 h5 k3 hl1 hR2 (fun a b _ _ _ => trn_0.symm) 2 (by decide)).mono ?_⟩
      rintro r σ ⟨rfl, I3, rfl, v1, v2⟩
      have hm : nthD ((hst ev L 0).take w) 0 h00 ∈ hst ev L 0 := by
        cases e : hst ev L 0 with
        | nil => rw [e] at hpos; simp at hpos
        | cons a t =>
          cases w with
          | zero => rw [e] at hl1; simp at hl1
          | succ w => exact List.mem_cons_self
      have hg := sols_good h5 hm
      have hW0 : WT ev L (fun _ _ => 0) := ⟨fun _ _ _ _ => ⟨show (0 : Nat) < 8192 by decide, fun _ => trn_0.symm⟩, fun _ _ _ _ _ c hc => by simp at hc⟩
      refine outer (PRb 0 ev) 0 I3 J2 _ none (by omega) hpos v1 (hW0.mrk h5 hg) (fun a ha => by unfold mrk; rw [if_pos rfl]) (k1.fr2 v2) (k2.k (v2 16 1 (by omega)) (v2 17 1 (by omega)) (v2 8 0 (by omega)) (v2 15 0 (by omega)) rfl) (hfr2.tr v2.F) (by rw [v2 7 0 (by omega)]; exact hflag) (fun q c hq => absurd hq (by omega))
    · have c1 : nI (min (hst ev L 0).length 1) = nI 0 := c1
      have h0 : (hst ev L 0).length = 0 := by
        have := (nI_eq (by omega) (by decide)).mp c1
        omega
      have hr : FIr I2 ev L := fun x y hx hy => by
        rw [(hR2 x y hx hy).1]
        have e : hst ev L 0 = [] := List.length_eq_zero_iff.mp h0
        unfold rly
        rw [e]
        split <;> rfl
      rw [← hQ]
      exact ⟨rfl, I2, J2, rfl, k1, ⟨true, hflag, fun _ => hr⟩, hr, hfr2⟩
  · have c : ¬ I 7 0 9 = 0 := c
    rw [kr1] at c
    have e := bi_t c
    rw [← hQ]
    exact ⟨rfl, I, J, rfl, h, ⟨kr, kr1, kr2⟩, kr2 e, frF.rf⟩
