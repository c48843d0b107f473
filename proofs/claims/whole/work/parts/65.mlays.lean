/-! The model: lays -/
def frLy (I I1 : SI) : Prop := (∀ a b, ¬ (a = 29 ∨ (41 ≤ a ∧ a ≤ 45)) → I1 a b = I a b) ∧ ∀ j, j ≠ 18 → j ≠ 19 → I1 29 0 j = I 29 0 j
theorem frLy.rf {I : SI} : frLy I I := ⟨fun _ _ _ => rfl, fun _ _ _ => rfl⟩
theorem frLy.tr {I I1 I2 : SI} (h : frLy I I1) (h1 : frLy I1 I2) : frLy I I2 := ⟨fun a b q => (h1.1 a b q).trans (h.1 a b q), fun j q1 q2 => (h1.2 j q1 q2).trans (h.2 j q1 q2)⟩
theorem frM.Y {I I1 : SI} (h : frM I I1) : frLy I I1 := ⟨fun a b q => h a b (by omega), fun j _ _ => by rw [h 29 0 (by omega)]⟩
theorem fr43.Y {I I1 : SI} (h : fr43 I I1) : frLy I I1 := ⟨fun a b q => h a b (by omega), fun j _ _ => by rw [h 29 0 (by omega)]⟩
theorem frLy.u {I I1 : SI} {a j : Nat} {x : Int32} (h : frLy I I1) (ha : 41 ≤ a) (ha2 : a ≤ 45) : frLy I (uI I1 a 0 j x) := ⟨fun b c q => by rw [uI_tt (by omega)]; exact h.1 b c q, fun i q1 q2 => by rw [uI_t (by omega)]; exact h.2 i q1 q2⟩
theorem frLy.u29 {I I1 : SI} {j : Nat} {x : Int32} (h : frLy I I1) (hj : j = 18 ∨ j = 19) : frLy I (uI I1 29 0 j x) := ⟨fun b c q => by rw [uI_tt (by omega)]; exact h.1 b c q, fun i q1 q2 => by rw [uI_j (by omega)]; exact h.2 i q1 q2⟩
theorem frLy.K {I I1 : SI} (h : frLy I I1) : frK I I1 := fun a b q => h.1 a b (by omega)
theorem MB.ly {I I1 : SI} {ev : Nat} {L : List Ob} (h : MB I ev L) (hf : frLy I I1) : MB I1 ev L := by
  obtain ⟨h1, h2, h3, h4, h5, h6⟩ := h
  refine ⟨by rw [hf.2 6 (by decide) (by decide)]; exact h1, h2, h3, h4.k (hf.1 30 0 (by omega)), h5, ?_⟩
  unfold MC at h6 ⊢
  rw [hf.1 38 0 (by omega), hf.1 39 0 (by omega), hf.1 40 0 (by omega)]
  exact h6
theorem MR.ly {I I1 : SI} {ev : Nat} {L : List Ob} {H : List (List Ob)} {img : Nat → List Ob} {kp : Nat → Bool} {S : List Ob} {n : Nat} {t : Nat → Nat} (h : MR I (ev, L, H, img, kp, S, n, t)) (hf : frLy I I1) (hl : LAY I1 ev L) : MR I1 (ev, L, H, img, kp, S, n, t) := by
  obtain ⟨h1, h2, h3, h4, h5, h6, h7, h8, h9⟩ := h
  exact ⟨h1.ly hf, hl, h3.k (hf.2 3 (by decide) (by decide)) (hf.1 32 0 (by omega)), h4, h5.k (hf.1 34 0 (by omega)) (hf.1 33 0 (by omega)), h6, h7.k (hf.2 10 (by decide) (by decide)) (hf.1 35 0 (by omega)) (hf.1 36 0 (by omega)) (hf.1 37 0 (by omega)), h8, h9.k (hf.2 22 (by decide) (by decide)) (hf.1 46 0 (by omega))⟩
def rlN (a : Nat) : Nat → Nat
  | 0 => 0
  | r + 1 => rlN a r ||| (if a.testBit r then 2 ^ r else 0)
theorem two_tb {r c : Nat} : (2 ^ r : Nat).testBit c = true ↔ r = c := by
  rw [Nat.testBit_two_pow, decide_eq_true_eq]
theorem rlN_bit {a c : Nat} : ∀ {r : Nat}, (rlN a r).testBit c = true ↔ c < r ∧ a.testBit c = true
  | 0 => by simp [rlN]
  | r + 1 => by
    simp only [rlN]
    rw [Nat.testBit_or, Bool.or_eq_true, rlN_bit (r := r)]
    constructor
    · rintro (⟨q1, q2⟩ | q)
      · exact ⟨by omega, q2⟩
      · split at q
        · rename_i z
          rw [two_tb] at q
          rw [← q]
          exact ⟨by omega, z⟩
        · simp at q
    · rintro ⟨q1, q2⟩
      by_cases e : c = r
      · subst e
        refine Or.inr ?_
        rw [if_pos q2]
        exact two_tb.mpr rfl
      · exact Or.inl ⟨by omega, q2⟩
theorem rlN_all {a : Nat} (h : a < 8192) : rlN a 13 = a := Nat.eq_of_testBit_eq fun c => by
  rw [Bool.eq_iff_iff, rlN_bit]
  exact ⟨fun q => q.2, fun q => ⟨bit13 h q, q⟩⟩
def rsN (N : NF) (p r : Nat) : NF := fun x y => if x = loT p ∧ y = hiT p then N x y &&& 2 ^ r else N x y
theorem rs_good {ev p r : Nat} {N : NF} (h5 : ev ≤ 5) (hp : p < PRb 0 ev) {l : HS} : GOOD (rsN N p r) (PRb 0 ev) l ↔ GOOD N (PRb 0 ev) l ∧ l p = r := by
  have p10 := PRb0_le ev (by omega)
  constructor
  · intro h
    refine ⟨h.sub (fun q hq => ?_), ?_⟩
    · have := h.bt hq
      unfold rsN at this
      split at this
      · rw [Nat.testBit_and, Bool.and_eq_true] at this
        exact this.1
      · exact this
    · have := h.bt hp
      unfold rsN at this
      rw [if_pos ⟨rfl, rfl⟩, Nat.testBit_and, Bool.and_eq_true, two_tb] at this
      exact this.2.symm
  · rintro ⟨h, e⟩
    refine h.sub (fun q hq => ?_)
    unfold rsN
    split
    · rename_i z
      have t := (lohi_t q (by omega)).2.2
      have t1 := (lohi_t p (by omega)).2.2
      rw [z.1, z.2, t1] at t
      rw [Nat.testBit_and, Bool.and_eq_true, ← t, two_tb, t]
      refine ⟨h.bt hq, ?_⟩
      rw [← t]
      exact e.symm
    · exact h.bt hq
theorem rly_bit {ev p r : Nat} {L : List Ob} (h5 : ev ≤ 5) (hp : p < PRb 0 ev) : (rly (hst ev L 0) (loT p) (hiT p)).testBit r = true ↔ ∃ l, GOOD (tol L (Nat.testBit 0)) (PRb 0 ev) l ∧ l p = r := by
  have p10 := PRb0_le ev (by omega)
  obtain ⟨t1, t2, t3⟩ := lohi_t p (by omega)
  unfold rly
  rw [if_neg (by omega), orL_bit]
  constructor
  · rintro ⟨l, m1, m2⟩
    refine ⟨l, sols_good h5 m1, ?_⟩
    unfold relH at m2
    rw [if_pos t1, t3] at m2
    exact m2
  · rintro ⟨l, g1, g2⟩
    obtain ⟨l1, m1, m2⟩ := sols_all h5 g1
    refine ⟨l1, m1, ?_⟩
    unfold relH
    rw [if_pos t1, t3, m2 p hp]
    exact g2
set_option maxRecDepth 10000 in
theorem m_lays (I : SI) (J : SJ) (ev : Nat) (L : List Ob) (H : List (List Ob)) (img : Nat → List Ob) (kp : Nat → Bool) (S : List Ob) (n : Nat) (t : Nat → Nat) (h : MR I (ev, L, H, img, kp, S, n, t)) (d : Nat) (hd : 4 < d) : Tri d YX9_lays 117 [vr 29 0] (S0 I J) (fun r σ => r = none ∧ ∃ I1, σ = S0 I1 J ∧ MR I1 (ev, L, H, img, kp, S, n, t) ∧ LD I1 ev L ∧ frK I I1) := by
  refine Tri.of (M := MX9_lays) k_X9_lays ⟨Nat.le_refl _, Nat.le_refl _⟩ (Nat.le_of_ble_eq_true rfl) ?_
  have hB : MB I ev L := h.1
  have h5 := hB.2.2.1
  have h2 := hB.2.1
  have p10 := PRb0_le ev (by omega)
  obtain ⟨ld, l1, l2⟩ := h.2.1
  generalize hQ : (fun (r : Option AV) (σ : ST) => r = none ∧ ∃ I1, σ = S0 I1 J ∧ MR I1 (ev, L, H, img, kp, S, n, t) ∧ LD I1 ev L ∧ frK I I1) = Q
  generalize hT : hst ev L 0 = T
  have eE : ∀ I1, frLy I I1 → I1 29 0 6 = nI ev := fun I1 f => by rw [f.2 6 (by decide) (by decide)]; exact hB.1
  have s144 : ∀ (I1 : SI), frLy I I1 → I1 29 0 18 = 1 → I1 29 0 19 = bi (decide (0 < T.length)) → (0 < T.length → ∀ p, p < PRb 0 ev → I1 45 0 p = nI (nthD T 0 h00 p)) → (∀ p, p < PRb 0 ev → I1 44 0 p = nI (rly T (loT p) (hiT p))) → Sat none MX9_lays d 117 Q 144 [some (vr 29 0), none, none] [] (S0 I1 J) := fun I1 f g1 g2 g3 g4 => by
    refine Sat.of k_X9_lays [] 60 ?_
    refine ⟨2, 117, by omega, Nat.le_refl _, (m_closes I1 J ev L (hB.ly f) 2 (by decide)).mono ?_⟩
    rintro r σ ⟨rfl, I2, rfl, ⟨N, b, c1, c2⟩, f2⟩
    have hl : LD I2 ev L := by
      unfold LD
      rw [hT, f2 29 0 (by decide), f2 44 0 (by decide), f2 45 0 (by decide)]
      exact ⟨g2, g3, g4, N, b, c1, c2⟩
    refine ⟨rfl, rfl, ?_⟩
    rw [← hQ]
    exact ⟨rfl, I2, rfl, h.ly (f.tr f2.Y) ⟨true, by rw [f2 29 0 (by decide)]; exact g1, fun _ => hl⟩, hl, (f.tr f2.Y).K⟩
  have ploop : 0 < T.length → ∀ (m p : Nat) (I1 : SI), p + m = PRb 0 ev → frLy I I1 → I1 29 0 18 = 1 → I1 29 0 19 = 1 → (∀ q, q < PRb 0 ev → I1 45 0 q = nI (nthD T 0 h00 q)) → (∀ q, q < p → I1 44 0 q = nI (rly T (loT q) (hiT q))) → (∀ q, p ≤ q → q < PRb 0 ev → I1 44 0 q = 0) → Sat none MX9_lays d 117 Q 59 [some (vr 29 0), some (vi (nI p)), none] [] (S0 I1 J) := by
    intro hpos m
    have eone : (1 : Int32) = bi (decide (0 < T.length)) := by rw [decide_eq_true hpos]; rfl
    induction m with
    | zero =>
      intro p I1 hp f g1 g2 g3 g4 g5
      have e : p = PRb 0 ev := by omega
      subst e
      refine Sat.of k_X9_lays [59, 76, 144] 60 ?_
      refine ⟨0, 117, by omega, Nat.le_refl _, (m_pairs I1 J ev (eE I1 f) h5 0).mono ?_⟩
      rintro r σ ⟨rfl, rfl⟩
      refine ⟨fun _ => (s144 I1 f g1 (by rw [g2, ← eone]) (fun _ => g3) (fun q hq => g4 q hq)).lw ⟨rfl, trivial⟩ rfl, fun c => absurd (nI_le (Nat.le_refl _) (by omega)) c⟩
    | succ m ih =>
      intro p I1 hp f g1 g2 g3 g4 g5
      have ep : (nI p).toNatClampNeg = p := nI_clamp (by omega)
      have hvp : vp_in (nI p) 10 := vp_in_nI (by omega) (by decide)
      obtain ⟨t1, t2, t3⟩ := lohi_t p (by omega)
      have hhi := hiT_lt ev (by omega) p (by omega) (by omega)
      have hrl := rly_lt (L := L) h5 (show loT p < ev by omega) hhi
      rw [hT] at hrl
      have rloop : ∀ (z r : Nat) (I2 : SI), r + z = 13 → frLy I I2 → I2 29 0 18 = 1 → I2 29 0 19 = 1 → (∀ q, q < PRb 0 ev → I2 45 0 q = nI (nthD T 0 h00 q)) → (∀ q, q ≠ p → I2 44 0 q = I1 44 0 q) → I2 44 0 p = nI (rlN (rly T (loT p) (hiT p)) r) → Sat none MX9_lays d 117 Q 76 [some (vr 29 0), some (vi (nI p)), some (vi (nI r))] [] (S0 I2 J) := by
        intro z
        induction z with
        | zero =>
          intro r I2 hr f2 k1 k2 k3 k4 k5
          have e : r = 13 := by omega
          subst e
          rw [rlN_all hrl] at k5
          refine Sat.of k_X9_lays [59, 76, 144] 60 ?_
          refine ⟨fun _ => (ih (p + 1) I2 (by omega) f2 k1 k2 k3 (fun q hq => ?_) (fun q hq1 hq2 => ?_)).lw ⟨rfl, by rw [← nI_1 p], trivial⟩ rfl, fun c => absurd (nI_le (a := 13) (b := 13) (by omega) (by omega)) c⟩
          · by_cases e : q = p
            · rw [e]
              exact k5
            · rw [k4 q e]
              exact g4 q (by omega)
          · rw [k4 q (by omega)]
            exact g5 q (by omega) hq2
        | succ z ihz =>
          intro r I2 hr f2 k1 k2 k3 k4 k5
          have hpr : (1 : Int32) <<< (nI r &&& 31) = nI (2 ^ r) := nx_shl (by omega)
          refine Sat.of k_X9_lays [59, 76, 99, 130, 144] 60 ?_
          refine ⟨fun c => absurd ((nI_leI (a := 13) (by omega) (by omega)).mp c) (by omega), fun _ => ⟨2, 117, by omega, Nat.le_refl _, (m_lets I2 J ev 0 L (hB.ly f2) (by decide) 2 (by decide)).mono ?_⟩⟩
          rintro v σ ⟨rfl, I3, rfl, q1, q2⟩
          have hM3 := (q1 p (by omega)).1
          have eI4 : (uI I3 41 0 (nI p).toNatClampNeg (I3 41 0 (nI p).toNatClampNeg &&& (1 : Int32) <<< (nI r &&& 31)), J, 117, aT) = S0 (uI I3 41 0 p (nI (tol L (Nat.testBit 0) (loT p) (hiT p) &&& 2 ^ r))) J := by
            rw [ep, hM3, hpr, nx_an]
          generalize hI4 : uI I3 41 0 p (nI (tol L (Nat.testBit 0) (loT p) (hiT p) &&& 2 ^ r)) = I4 at eI4
          have f4 : frLy I2 I4 := by rw [← hI4]; exact (q2.M.Y).u (by decide) (by decide)
          have h44 : I4 44 0 = I2 44 0 := by rw [← hI4, uI_tt (by decide), q2 44 0 (by decide)]
          have hM4 : MAY I4 ev (rsN (tol L (Nat.testBit 0)) p r) := fun q hq => by
            rw [← hI4]
            unfold rsN
            obtain ⟨w1, w2⟩ := q1 q hq
            by_cases e : q = p
            · subst e
              rw [uI_at, if_pos ⟨rfl, rfl⟩]
              exact ⟨rfl, and_lt13 w2⟩
            · rw [uI_j e, if_neg (fun zz => e ?_)]
              · exact ⟨w1, w2⟩
              · have := (lohi_t q (by omega)).2.2
                rw [zz.1, zz.2, t3] at this
                exact this.symm
          have hv0 := hM4 p (by omega)
          have e0 : rsN (tol L (Nat.testBit 0)) p r (loT p) (hiT p) = tol L (Nat.testBit 0) (loT p) (hiT p) &&& 2 ^ r := by
            unfold rsN
            rw [if_pos ⟨rfl, rfl⟩]
          have hbit : ∀ b : Bool, (b = true ↔ ∃ l, GOOD (rsN (tol L (Nat.testBit 0)) p r) (PRb 0 ev) l) → b = (rly T (loT p) (hiT p)).testBit r := fun b hb => by
            rw [Bool.eq_iff_iff, hb, ← hT, rly_bit h5 (by omega)]
            exact ⟨fun ⟨l, hl⟩ => ⟨l, (rs_good h5 (by omega)).mp hl⟩, fun ⟨l, hl⟩ => ⟨l, (rs_good h5 (by omega)).mpr hl⟩⟩
          have s130 : ∀ (I5 : SI) (w : Nat), fr42 I4 I5 → w = (if (rly T (loT p) (hiT p)).testBit r then 2 ^ r else 0) → Sat none MX9_lays d 117 Q 130 [some (vr 29 0), some (vi (nI p)), some (vi (nI r))] [vi (nI w), vi (nI (rlN (rly T (loT p) (hiT p)) r)), vi (nI p), vr 44 0] (S0 I5 J) := fun I5 w f5 hw => by
            have f15 : frLy I I5 := (f2.tr f4).tr f5.M.Y
            have z29 : ∀ j, I5 29 0 j = I2 29 0 j := fun j => by
              rw [f5 29 0 (by decide), ← hI4, uI_t (by decide), q2 29 0 (by decide)]
            have z45 : I5 45 0 = I2 45 0 := by rw [f5 45 0 (by decide), ← hI4, uI_tt (by decide), q2 45 0 (by decide)]
            have z44 : I5 44 0 = I2 44 0 := by rw [f5 44 0 (by decide), h44]
            refine Sat.of k_X9_lays [76] 60 ?_
            refine ⟨hvp, (ihz (r + 1) (uI I5 44 0 p (nI (rlN (rly T (loT p) (hiT p)) (r + 1)))) (by omega) (f15.u (by decide) (by decide)) ?_ ?_ (fun q hq => ?_) (fun q hq => ?_) uI_at).to (by rw [← nI_1]; rfl) ?_⟩
            · rw [uI_t (by decide), z29]
              exact k1
            · rw [uI_t (by decide), z29]
              exact k2
            · rw [uI_t (by decide), z45]
              exact k3 q hq
            · rw [uI_j hq, z44]
              exact k4 q hq
            · show (uI I5 44 0 (nI p).toNatClampNeg (nI (rlN (rly T (loT p) (hiT p)) r) ||| nI w), J, 117, aT) = _
              simp only [rlN]
              rw [ep, nx_or, hw]
          have eold : I4 44 0 (nI p).toNatClampNeg = nI (rlN (rly T (loT p) (hiT p)) r) := by rw [ep, h44, k5]
          have emay : I4 41 0 (nI p).toNatClampNeg = nI (tol L (Nat.testBit 0) (loT p) (hiT p) &&& 2 ^ r) := by rw [ep, hv0.1, e0]
          have goal : Sat none MX9_lays d 117 Q 99 [some (vr 29 0), some (vi (nI p)), some (vi (nI r))] [] (S0 I4 J) := by
            refine Sat.of k_X9_lays [59, 76, 130, 144] 60 ?_
            refine ⟨hvp, hvp, fun c => ?_, fun c => ⟨3, 117, by omega, Nat.le_refl _, (m_first1 I4 J ev _ (hB.ly (f2.tr f4)).2.2.2.2.2 hM4 (eE I4 (f2.tr f4)) h2 h5 3 (by decide)).mono ?_⟩⟩
            · have c : I4 41 0 (nI p).toNatClampNeg = nI 0 := c
              have hlt8 : tol L (Nat.testBit 0) (loT p) (hiT p) &&& 2 ^ r < 8192 := by rw [← e0]; exact hv0.2
              rw [emay, nI_eq (by omega) (by decide)] at c
              have hb := hbit false ⟨fun q => absurd q (by decide), fun ⟨l, hl⟩ => by
                have := hl.bt (show p < PRb 0 ev by omega)
                rw [e0, c] at this
                simp at this⟩
              show Sat none MX9_lays d 117 Q 130 _ [vi 0, vi (I4 44 0 (nI p).toNatClampNeg), vi (nI p), vr 44 0] (S0 I4 J)
              rw [eold]
              exact s130 I4 0 (fun _ _ _ => rfl) (by rw [← hb]; rfl)
            · rintro v σ ⟨I5, rfl, f5, rfl, _⟩
              refine ⟨fun c => ?_, fun c => ?_⟩
              · have c := bi_f c
                have hb := hbit false ⟨fun q => absurd q (by decide), fun hl => by rw [decide_eq_true ((sols_pos h5).mpr hl)] at c; exact c.symm⟩
                show Sat none MX9_lays d 117 Q 130 _ [vi 0, vi (I4 44 0 (nI p).toNatClampNeg), vi (nI p), vr 44 0] (S0 I5 J)
                rw [eold]
                exact s130 I5 0 f5 (by rw [← hb]; rfl)
              · have c := of_decide_eq_true (bi_t c)
                have hb := hbit true ⟨fun _ => (sols_pos h5).mp c, fun _ => rfl⟩
                show Sat none MX9_lays d 117 Q 130 _ [vi ((1 : Int32) <<< (nI r &&& 31)), vi (I4 44 0 (nI p).toNatClampNeg), vi (nI p), vr 44 0] (S0 I5 J)
                rw [eold, hpr]
                exact s130 I5 (2 ^ r) f5 (by rw [← hb]; rfl)
          exact ⟨hvp, hvp, goal.to rfl eI4⟩
      refine Sat.of k_X9_lays [59, 76, 144] 60 ?_
      refine ⟨0, 117, by omega, Nat.le_refl _, (m_pairs I1 J ev (eE I1 f) h5 0).mono ?_⟩
      rintro r σ ⟨rfl, rfl⟩
      refine ⟨fun c => absurd ((nI_leI (a := PRb 0 ev) (by omega) (by omega)).mp c) (by omega), fun _ => ⟨fun c => ?_, fun _ => ?_⟩⟩
      · have c : I1 29 0 19 = 0 := c
        rw [g2] at c
        exact absurd c (by decide)
      · refine (rloop 13 0 I1 (by omega) f g1 g2 g3 (fun _ _ => rfl) ?_).to rfl rfl
        rw [g5 p (Nat.le_refl _) (by omega)]
        rfl
  have floop : ∀ (m p : Nat) (I1 : SI), p + m = PRb 0 ev → frLy I I1 → I1 29 0 18 = 1 → I1 29 0 19 = bi (decide (0 < T.length)) → (0 < T.length → TRD I1 (PRb 0 ev) (nthD T 0 h00)) → (0 < T.length → ∀ q, q < p → I1 45 0 q = nI (nthD T 0 h00 q)) → (∀ q, q < p → I1 44 0 q = 0) → Sat none MX9_lays d 117 Q 24 [some (vr 29 0), some (vi (nI p)), none] [] (S0 I1 J) := by
    intro m
    induction m with
    | zero =>
      intro p I1 hp f g1 g2 g3 g4 g5
      have e : p = PRb 0 ev := by omega
      subst e
      refine Sat.of k_X9_lays [24, 59] 60 ?_
      refine ⟨0, 117, by omega, Nat.le_refl _, (m_pairs I1 J ev (eE I1 f) h5 0).mono ?_⟩
      rintro r σ ⟨rfl, rfl⟩
      refine ⟨fun _ => ?_, fun c => absurd (nI_le (Nat.le_refl _) (by omega)) c⟩
      by_cases hpos : 0 < T.length
      · rw [decide_eq_true hpos] at g2
        exact (ploop hpos (PRb 0 ev) 0 I1 (by omega) f g1 g2 (fun q hq => g4 hpos q hq) (fun q hq => absurd hq (by omega)) (fun q _ hq => g5 q hq)).to rfl rfl
      · have e0 : T = [] := by
          cases T with
          | nil => rfl
          | cons a r => exact absurd (by simp) hpos
        have fin : Sat none MX9_lays d 117 Q 144 [some (vr 29 0), none, none] [] (S0 I1 J) := by
          refine s144 I1 f g1 g2 (fun q => absurd q hpos) (fun q hq => ?_)
          rw [g5 q hq, e0]
          obtain ⟨t1, t2, t3⟩ := lohi_t q (by omega)
          unfold rly
          rw [if_neg (by omega)]
          rfl
        refine Sat.of k_X9_lays [144] 60 ?_
        refine ⟨0, 117, by omega, Nat.le_refl _, (m_pairs I1 J ev (eE I1 f) h5 0).mono ?_⟩
        rintro r σ ⟨rfl, rfl⟩
        refine ⟨fun _ => fin.lw ⟨rfl, trivial⟩ rfl, fun _ => ⟨fun _ => fin.lw ⟨rfl, trivial⟩ rfl, fun c => ?_⟩⟩
        have c : ¬ I1 29 0 19 = 0 := c
        rw [g2, decide_eq_false hpos] at c
        exact absurd rfl c
    | succ m ih =>
      intro p I1 hp f g1 g2 g3 g4 g5
      have ep : (nI p).toNatClampNeg = p := nI_clamp (by omega)
      have hvp : vp_in (nI p) 10 := vp_in_nI (by omega) (by decide)
      refine Sat.of k_X9_lays [24, 59] 60 ?_
      refine ⟨0, 117, by omega, Nat.le_refl _, (m_pairs I1 J ev (eE I1 f) h5 0).mono ?_⟩
      rintro r σ ⟨rfl, rfl⟩
      refine ⟨fun c => absurd ((nI_leI (a := PRb 0 ev) (by omega) (by omega)).mp c) (by omega), fun _ => ⟨hvp, hvp, hvp, ?_⟩⟩
      refine (ih (p + 1) (uI (uI I1 45 0 p (I1 42 0 p)) 44 0 p 0) (by omega) ((f.u (by decide) (by decide)).u (by decide) (by decide)) (by rw [uI_t (by decide), uI_t (by decide)]; exact g1) (by rw [uI_t (by decide), uI_t (by decide)]; exact g2) (fun q k hk => ?_) (fun hpos q hq => ?_) (fun q hq => ?_)).to (by rw [← nI_1]; rfl) (show (uI (uI I1 45 0 (nI p).toNatClampNeg (I1 42 0 (nI p).toNatClampNeg)) 44 0 (nI p).toNatClampNeg 0, J, 117, aT) = _ by rw [ep])
      · rw [uI_t (by decide), uI_t (by decide)]
        exact g3 q k hk
      · rw [uI_t (by decide)]
        by_cases e : q = p
        · rw [e, uI_at, (g3 hpos p (by omega)).1]
        · rw [uI_j e]
          exact g4 hpos q (by omega)
      · by_cases e : q = p
        · rw [e, uI_at]
        · rw [uI_j e, uI_t (by decide)]
          exact g5 q (by omega)
  refine Sat.of k_X9_lays [24] 60 ?_
  refine ⟨fun c => ?_, fun c => ⟨rfl, rfl, ?_⟩⟩
  · have f1 : frLy I (uI I 29 0 18 1) := frLy.rf.u29 (Or.inl rfl)
    refine ⟨Or.inr rfl, 4, 117, by omega, Nat.le_refl _, (m_isWithout (uI I 29 0 18 1) J ev 0 L (hB.ly f1) (by decide) 4 (by decide)).mono ?_⟩
    rintro v σ ⟨I2, rfl, f2, rfl, hTr⟩
    rw [hT] at hTr
    refine ⟨?_, (floop (PRb 0 ev) 0 (uI I2 29 0 19 (bi (decide (0 < T.length)))) (by omega) ((f1.tr f2.Y).u29 (Or.inr rfl)) ?_ uI_at (fun q k hk => ?_) (fun _ q hq => absurd hq (by omega)) (fun q hq => absurd hq (by omega))).to rfl ?_⟩
    · exact bi_01 _
    · rw [uI_j (by decide), f2 29 0 (by decide), uI_at]
    · rw [uI_t (by decide)]
      exact hTr q k hk
    · rw [← hT]
  · have c : ¬ I 29 0 18 = 0 := c
    rw [l1] at c
    rw [← hQ]
    exact ⟨rfl, I, rfl, h, l2 (bi_t c), frK.rf⟩
