/-! The model: left, next -/
theorem rly_sym {ev : Nat} {L : List Ob} (h5 : ev ≤ 5) {x y : Nat} (hx : x < ev) (hy : y < ev) (hxy : x ≠ y) : trn (rly (hst ev L 0) y x) = rly (hst ev L 0) x y := by
  unfold rly
  rw [if_neg (Ne.symm hxy), if_neg hxy]
  refine Nat.eq_of_testBit_eq fun c => ?_
  rw [Bool.eq_iff_iff, trn_bit, orL_bit, orL_bit]
  constructor
  · rintro ⟨hc, l, m1, m2⟩
    have h13 := (sols_good h5 m1).l13 h5
    refine ⟨l, m1, ?_⟩
    rw [relH_sw h13 hy hx (Ne.symm hxy), m2]
    omega
  · rintro ⟨l, m1, m2⟩
    have h13 := (sols_good h5 m1).l13 h5
    have hlt := h13.rel hx hy
    refine ⟨by omega, l, m1, ?_⟩
    rw [relH_sw h13 hx hy hxy, m2]
set_option maxRecDepth 10000 in
theorem m_reallyOf (I : SI) (J : SJ) (ev x y : Nat) (L : List Ob) (h : LD I ev L) (h5 : ev ≤ 5) (hx : x < ev) (hy : y < ev) (d : Nat) (hd : 0 < d) : Tri d YX9_reallyOf 117 [vr 29 0, vi (nI x), vi (nI y)] (S0 I J) (fun r σ => σ = S0 I J ∧ r = some (vi (nI (rly (hst ev L 0) x y)))) := by
  refine Tri.of (M := MX9_reallyOf) k_X9_reallyOf ⟨Nat.le_refl _, Nat.le_refl _⟩ (Nat.le_of_ble_eq_true rfl) ?_
  have p10 := PRb0_le ev (by omega)
  obtain ⟨l1, _, l3, _⟩ := h
  have at3 : ∀ a b, a < b → b < ev → I 44 0 (nI (PRb a b)).toNatClampNeg = nI (rly (hst ev L 0) a b) := fun a b hab hb => by
    have hq := pr0_lt ev (by omega) b hb a hab
    rw [nI_clamp (by omega), l3 _ hq, (lohi_of b (by omega) a hab).1, (lohi_of b (by omega) a hab).2]
  refine Sat.of k_X9_reallyOf [] 60 ?_
  refine ⟨fun c => ⟨fun c1 => ?_, fun c1 => ?_⟩, fun c => ⟨fun c1 => ⟨rfl, trivial, rfl, ?_⟩, fun c1 => ⟨rfl, trivial, rfl, ?_⟩⟩⟩
  · have c1 : nI y ≤ nI x := c1
    rw [nI_leI (by omega) (by omega)] at c1
    have c : ¬ nI x = nI y := c
    have hne : x ≠ y := fun e => c (by rw [e])
    refine ⟨0, 117, hd, Nat.le_refl _, (m_pairOf I J y x (by omega) (by omega) 0).mono ?_⟩
    rintro r σ ⟨rfl, rfl⟩
    have hq := pr0_lt ev (by omega) x hx y (by omega)
    refine ⟨vp_in_nI (by omega) (by decide), 0, 117, hd, Nat.le_refl _, (m_turnedSet I J (rly (hst ev L 0) y x) (rly_lt h5 hy hx) 0).to ?_ rfl ?_⟩
    · show [vi (I 44 0 (nI (PRb y x)).toNatClampNeg)] = _
      rw [at3 y x (by omega) hx]
    · rintro r σ ⟨rfl, rfl⟩
      refine ⟨rfl, trivial, rfl, ?_⟩
      rw [rly_sym h5 hx hy hne]
  · have c1 : ¬ nI y ≤ nI x := c1
    rw [nI_leI (by omega) (by omega)] at c1
    refine ⟨0, 117, hd, Nat.le_refl _, (m_pairOf I J x y (by omega) (by omega) 0).mono ?_⟩
    rintro r σ ⟨rfl, rfl⟩
    have hq := pr0_lt ev (by omega) y hy x (by omega)
    refine ⟨vp_in_nI (by omega) (by decide), rfl, trivial, rfl, ?_⟩
    show some (vi (I 44 0 (nI (PRb x y)).toNatClampNeg)) = _
    rw [at3 x y (by omega) hy]
  · have c : nI x = nI y := c
    rw [nI_eq (by omega) (by omega)] at c
    have c1 : I 29 0 19 = 0 := c1
    rw [l1] at c1
    have := of_decide_eq_false (bi_f c1)
    unfold rly
    rw [if_pos c, if_pos (by omega)]
    rfl
  · have c : nI x = nI y := c
    rw [nI_eq (by omega) (by omega)] at c
    have c1 : ¬ I 29 0 19 = 0 := c1
    rw [l1] at c1
    have := of_decide_eq_true (bi_t c1)
    unfold rly
    rw [if_pos c, if_neg (by omega)]
    rfl
theorem AL.uni {s : SS} {x y w u v : Int32} (h : AL s x y w u) (h1 : AL s x y w v) (he : s.1 < 2 ^ 31) : u = v := by
  obtain ⟨ev, L, r⟩ := s
  simp only [AL] at h h1
  by_cases q : (isIn x ev && isIn y ev) = true
  · rw [if_pos q] at h h1
    by_cases q0 : w = 0
    · rw [if_pos q0] at h h1
      rw [h, h1]
    · rw [if_neg q0] at h h1
      by_cases q1 : w = 1
      · rw [if_pos q1] at h h1
        obtain ⟨N, b, c1, c2⟩ := h
        obtain ⟨N1, b1, c3, c4⟩ := h1
        rw [Bool.and_eq_true] at q
        obtain ⟨i, i1, rfl⟩ := isIn_of q.1 he
        obtain ⟨j, j1, rfl⟩ := isIn_of q.2 he
        rw [c2, c4, nI_clamp (Nat.lt_trans i1 he), nI_clamp (Nat.lt_trans j1 he), (c1.uni c3).2 i j i1 j1]
      · rw [if_neg q1] at h h1
        by_cases q2 : w = 2
        · rw [if_pos q2] at h h1
          rw [h, h1]
        · rw [if_neg q2] at h h1
          rw [h, h1]
  · rw [if_neg q] at h h1
    rw [h, h1]
set_option maxRecDepth 10000 in
theorem m_left (I : SI) (J : SJ) (s : SS) (x y w : Int32) (h : MR I s) (d : Nat) (hd : 5 < d) : Tri d YX9_left 117 [vr 29 0, vi x, vi y, vi w] (S0 I J) (fun r σ => ∃ v I1, r = some (vi v) ∧ AL s x y w v ∧ σ = S0 I1 J ∧ MR I1 s ∧ frK I I1) := by
  refine Tri.of (M := MX9_left) k_X9_left ⟨Nat.le_refl _, Nat.le_refl _⟩ (Nat.le_of_ble_eq_true rfl) ?_
  obtain ⟨ev, L, H, img, kp, S, n, t⟩ := s
  have hB : MB I ev L := h.1
  have h5 := hB.2.2.1
  have h2 := hB.2.1
  have no : (isIn x ev && isIn y ev) = false → AL (ev, L, H, img, kp, S, n, t) x y w (-1) := fun q => by
    simp only [AL]
    rw [q, if_neg (by decide)]
    trivial
  refine Sat.of k_X9_left [] 60 ?_
  refine ⟨1, 117, by omega, Nat.le_refl _, (m_isEvent I J ev x hB.1 h5 1 (by decide)).mono ?_⟩
  rintro r σ ⟨rfl, rfl⟩
  refine ⟨fun c => ⟨rfl, trivial, _, I, rfl, no (by rw [bi_f c, Bool.false_and]), rfl, h, frK.rf⟩, fun c => ⟨1, 117, by omega, Nat.le_refl _, (m_isEvent I J ev y hB.1 h5 1 (by decide)).mono ?_⟩⟩
  rintro r σ ⟨rfl, rfl⟩
  refine ⟨fun c1 => ⟨rfl, trivial, _, I, rfl, no (by rw [bi_f c1, Bool.and_false]), rfl, h, frK.rf⟩, fun c1 => ⟨0, 117, by omega, Nat.le_refl _, (m_in I J w 0 (nI 2) 0).mono ?_⟩⟩
  have hx := bi_t c
  have hy := bi_t c1
  obtain ⟨i, i1, rfl⟩ := isIn_of hx (by omega)
  obtain ⟨j, j1, rfl⟩ := isIn_of hy (by omega)
  have ei : (nI i).toNatClampNeg = i := nI_clamp (by omega)
  have ej : (nI j).toNatClampNeg = j := nI_clamp (by omega)
  have yes : (isIn (nI i) ev && isIn (nI j) ev) = true := by rw [hx, hy]; rfl
  rintro r σ ⟨rfl, rfl⟩
  rw [inB_lit w 2 (by decide)]
  refine ⟨fun c2 => ?_, fun c2 => ⟨rfl, trivial, _, I, rfl, ?_, rfl, h, frK.rf⟩⟩
  · obtain ⟨k, k1, rfl⟩ := isIn_of (bi_t c2) (by decide)
    refine ⟨fun c3 => ⟨5, 117, hd, Nat.le_refl _, (m_lays I J ev L H img kp S n t h 5 (by decide)).mono ?_⟩, fun c3 => ⟨fun c4 => ⟨1, 117, by omega, Nat.le_refl _, (m_toldOf I J ev i j 0 L hB (by omega) (by omega) (by decide) 1 (by decide)).mono ?_⟩, fun c4 => ⟨rfl, trivial, _, I, rfl, ?_, rfl, h, frK.rf⟩⟩⟩
    · have c3 : ¬ nI k = 0 := c3
      rintro r σ ⟨rfl, I1, rfl, hR, hL, hK⟩
      refine ⟨fun c4 => ⟨1, 117, by omega, Nat.le_refl _, (m_reallyOf I1 J ev i j L hL h5 i1 j1 1 (by decide)).mono ?_⟩, fun c4 => ?_⟩
      · have c4 : ¬ nI k = 1 := c4
        have k2 : k = 2 := by
          rcases (show k = 0 ∨ k = 1 ∨ k = 2 by omega) with e | e | e
          · exact absurd (by rw [e]; rfl) c3
          · exact absurd (by rw [e]; rfl) c4
          · exact e
        rintro r σ ⟨rfl, rfl⟩
        refine ⟨rfl, trivial, _, I1, rfl, ?_, rfl, hR, hK⟩
        simp only [AL]
        rw [if_pos yes, if_neg c3, if_neg c4, if_pos (by rw [k2]; rfl), ei, ej]
      · have c4 : nI k = 1 := c4
        obtain ⟨N, b, cl1, cl2⟩ := hL.2.2.2
        have hE : I1 29 0 6 = nI ev := hR.1.1
        obtain ⟨q1, _, _, q4⟩ := k2_s ev (by omega) i i1 j j1
        have ix : I1 29 0 6 * nI i + nI j = nI (ev * i + j) := by rw [hE, pk_mul, nI_add]
        refine ⟨?_, rfl, trivial, _, I1, rfl, ?_, rfl, hR, hK⟩
        · show vp_in (I1 29 0 6 * nI i + nI j) 25
          rw [ix]
          exact vp_in_nI q4 (by decide)
        · show AL (ev, L, H, img, kp, S, n, t) (nI i) (nI j) (nI k) (I1 43 0 (I1 29 0 6 * nI i + nI j).toNatClampNeg)
          rw [ix, nI_clamp (by omega), cl2 i j i1 j1]
          simp only [AL]
          rw [if_pos yes, if_neg c3, if_pos c4, ei, ej]
          exact ⟨N, b, cl1, rfl⟩
    · have c3 : nI k = 0 := c3
      have c4 : ¬ nI i = nI j := c4
      rintro r σ ⟨rfl, rfl⟩
      refine ⟨rfl, trivial, _, I, rfl, ?_, rfl, h, frK.rf⟩
      simp only [AL]
      rw [if_pos yes, if_pos c3, ei, ej]
      unfold tol tolN
      rw [if_neg (fun e => c4 (by rw [e]))]
    · have c3 : nI k = 0 := c3
      have c4 : nI i = nI j := c4
      rw [nI_eq (by omega) (by omega)] at c4
      simp only [AL]
      rw [if_pos yes, if_pos c3, ei, ej]
      unfold tol tolN
      rw [if_pos c4]
      rfl
  · have hb := bi_f c2
    have n0 : ¬ w = 0 := fun e => by rw [e] at hb; exact absurd hb (by decide)
    have n1 : ¬ w = 1 := fun e => by rw [e] at hb; exact absurd hb (by decide)
    have n2 : ¬ w = 2 := fun e => by rw [e] at hb; exact absurd hb (by decide)
    simp only [AL]
    rw [if_pos yes, if_neg n0, if_neg n1, if_neg n2]
    trivial
theorem bi_b2n (b : Bool) : bi b = nI (b2n b) := by cases b <;> rfl
set_option maxRecDepth 10000 in
theorem m_bits (I : SI) (J : SJ) (a : Nat) (ha : a < 8192) (d : Nat) : Tri d YX9_bits 117 [vi (nI a)] (S0 I J) (fun r σ => σ = S0 I J ∧ r = some (vi (nI (pop a)))) := by
  refine Tri.of (M := MX9_bits) k_X9_bits ⟨Nat.le_refl _, Nat.le_refl _⟩ (Nat.le_of_ble_eq_true rfl) ?_
  have loop : ∀ (m r : Nat), r + m = 13 → Sat none MX9_bits d 117 (fun r σ => σ = S0 I J ∧ r = some (vi (nI (pop a)))) 4 [some (vi (nI a)), some (vi (nI (sumN r (fun c => b2n (a.testBit c))))), some (vi (nI r))] [] (S0 I J) := by
    intro m
    induction m with
    | zero =>
      intro r hr
      have e : r = 13 := by omega
      subst e
      refine Sat.of k_X9_bits [4] 60 ?_
      exact ⟨fun c => ⟨rfl, trivial, rfl, rfl⟩, fun c => absurd (nI_le (a := 13) (b := 13) (by omega) (by omega)) c⟩
    | succ m ih =>
      intro r hr
      refine Sat.of k_X9_bits [4] 60 ?_
      refine ⟨fun c => absurd ((nI_leI (a := 13) (by omega) (by omega)).mp c) (by omega), fun c => (ih (r + 1) (by omega)).to ?_ rfl⟩
      show [some (vi (nI a)), some (vi (nI (sumN r (fun c => b2n (a.testBit c))) + ((nI a >>> (nI r &&& 31)) &&& 1))), some (vi (nI r + 1))] = _
      rw [nx_bit (by omega) (by omega), bi_b2n, nI_add, nI_1]
      rfl
  refine Sat.of k_X9_bits [4] 60 ?_
  exact (loop 13 0 (by omega)).to rfl rfl
set_option maxRecDepth 10000 in
theorem m_next (I : SI) (J : SJ) (s : SS) (h : MR I s) (d : Nat) (hd : 5 < d) : Tri d YX9_next 117 [vr 29 0] (S0 I J) (fun r σ => r = some (vi (oNext s)) ∧ ∃ I1, σ = S0 I1 J ∧ MR I1 s ∧ frK I I1) := by
  refine Tri.of (M := MX9_next) k_X9_next ⟨Nat.le_refl _, Nat.le_refl _⟩ (Nat.le_of_ble_eq_true rfl) ?_
  obtain ⟨ev, L, H, img, kp, S, n, t⟩ := s
  have hB : MB I ev L := h.1
  have h5 := hB.2.2.1
  have p10 := PRb0_le ev (by omega)
  have loop : ∀ (I1 : SI), MR I1 (ev, L, H, img, kp, S, n, t) → LD I1 ev L → frK I I1 → ∀ (m p : Nat), p + m = PRb 0 ev →
      Sat none MX9_next d 117 (fun r σ => r = some (vi (oNext (ev, L, H, img, kp, S, n, t))) ∧ ∃ I1, σ = S0 I1 J ∧ MR I1 (ev, L, H, img, kp, S, n, t) ∧ frK I I1) 11 [some (vr 29 0), some (vi (nxS (rly (hst ev L 0)) p).1), some (vi (nI (nxS (rly (hst ev L 0)) p).2)), some (vi (nI p))] [] (S0 I1 J) := by
    intro I1 hR hL hK m
    induction m with
    | zero =>
      intro p hp
      have e : p = PRb 0 ev := by omega
      subst e
      refine Sat.of k_X9_next [11] 60 ?_
      refine ⟨0, 117, by omega, Nat.le_refl _, (m_pairs I1 J ev hR.1.1 h5 0).mono ?_⟩
      rintro r σ ⟨rfl, rfl⟩
      refine ⟨fun c => ⟨rfl, trivial, rfl, I1, rfl, hR, hK⟩, fun c => absurd (nI_le (Nat.le_refl _) (by omega)) c⟩
    | succ m ih =>
      intro p hp
      obtain ⟨t1, t2, t3⟩ := lohi_t p (by omega)
      have hhi : hiT p < ev := hiT_lt ev (by omega) p (by omega) (by omega)
      have ep : (nI p).toNatClampNeg = p := nI_clamp (by omega)
      have hv : vp_in (nI p) 10 := vp_in_nI (by omega) (by decide)
      have hl8 := rly_lt (L := L) h5 (show loT p < ev by omega) hhi
      have hm := nxS_le (N := rly (hst ev L 0)) (p := p)
      have hpop := pop_13 (rly (hst ev L 0) (loT p) (hiT p))
      have hat : I1 44 0 (nI p).toNatClampNeg = nI (rly (hst ev L 0) (loT p) (hiT p)) := by rw [ep]; exact hL.2.2.1 p (by omega)
      refine Sat.of k_X9_next [11] 60 ?_
      refine ⟨0, 117, by omega, Nat.le_refl _, (m_pairs I1 J ev hR.1.1 h5 0).mono ?_⟩
      rintro r σ ⟨rfl, rfl⟩
      refine ⟨fun c => absurd ((nI_leI (a := PRb 0 ev) (by omega) (by omega)).mp c) (by omega), fun c => ⟨hv, 0, 117, by omega, Nat.le_refl _, (m_bits I1 J _ hl8 0).to ?_ rfl ?_⟩⟩
      · show [vi (I1 44 0 (nI p).toNatClampNeg)] = _
        rw [hat]
      rintro r σ ⟨rfl, rfl⟩
      refine ⟨fun c1 => ?_, fun c1 => ⟨hv, 0, 117, by omega, Nat.le_refl _, (m_bits I1 J _ hl8 0).to ?_ rfl ?_⟩⟩
      · have c1 : nI (pop (rly (hst ev L 0) (loT p) (hiT p))) ≤ nI (nxS (rly (hst ev L 0)) p).2 := c1
        rw [nI_leI (by omega) (by omega)] at c1
        have e : nxS (rly (hst ev L 0)) (p + 1) = nxS (rly (hst ev L 0)) p := by
          simp only [nxS]
          rw [if_neg (by omega)]
        refine (ih (p + 1) (by omega)).to ?_ rfl
        rw [e, ← nI_1]
        rfl
      · show [vi (I1 44 0 (nI p).toNatClampNeg)] = _
        rw [hat]
      · have c1 : ¬ nI (pop (rly (hst ev L 0) (loT p) (hiT p))) ≤ nI (nxS (rly (hst ev L 0)) p).2 := c1
        rw [nI_leI (by omega) (by omega)] at c1
        have e : nxS (rly (hst ev L 0)) (p + 1) = (nI (10 * loT p + hiT p), pop (rly (hst ev L 0) (loT p) (hiT p))) := by
          simp only [nxS]
          rw [if_pos (by omega)]
        rintro r σ ⟨rfl, rfl⟩
        refine ⟨1, 117, by omega, Nat.le_refl _, (m_lowOf I1 J p (by omega) 1 (by decide)).mono ?_⟩
        rintro r σ ⟨rfl, rfl⟩
        refine ⟨0, 117, by omega, Nat.le_refl _, (m_highOf I1 J p (by omega) 0).mono ?_⟩
        rintro r σ ⟨rfl, rfl⟩
        refine (ih (p + 1) (by omega)).to ?_ rfl
        rw [e, ← nI_1, ← ten_t p (by omega)]
        rfl
  refine Sat.of k_X9_next [11] 60 ?_
  refine ⟨5, 117, hd, Nat.le_refl _, (m_lays I J ev L H img kp S n t h 5 (by decide)).mono ?_⟩
  rintro r σ ⟨rfl, I1, rfl, hR, hL, hK⟩
  exact (loop I1 hR hL hK (PRb 0 ev) 0 (by omega)).to rfl rfl
