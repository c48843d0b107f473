/-! The model: what is told, pairs -/
theorem tld_step {L : List Ob} {g : Nat → Bool} {k x y : Nat} : tldN L g (k + 1) x y = (tldN L g k x y &&& (if g k = false ∧ (nthD L k (0, 0, 0)).1 = x ∧ (nthD L k (0, 0, 0)).2.2 = y then (nthD L k (0, 0, 0)).2.1 else 8191)) &&& (if g k = false ∧ (nthD L k (0, 0, 0)).1 = y ∧ (nthD L k (0, 0, 0)).2.2 = x then trn (nthD L k (0, 0, 0)).2.1 else 8191) := by
  simp only [tldN, ctr]
  cases g k with
  | true =>
    rw [if_pos rfl, if_neg (show ¬ (true = false ∧ _ ∧ _) from fun q => absurd q.1 (by decide)), if_neg (show ¬ (true = false ∧ _ ∧ _) from fun q => absurd q.1 (by decide)), Nat.and_assoc]
    rfl
  | false =>
    rw [if_neg (by decide), Nat.and_assoc]
    congr 1
    congr 1
    · by_cases q : (nthD L k (0, 0, 0)).1 = x ∧ (nthD L k (0, 0, 0)).2.2 = y
      · rw [if_pos q, if_pos ⟨rfl, q⟩]
      · rw [if_neg q, if_neg (fun z => q z.2)]
    · by_cases q : (nthD L k (0, 0, 0)).1 = y ∧ (nthD L k (0, 0, 0)).2.2 = x
      · rw [if_pos q, if_pos ⟨rfl, q⟩]
      · rw [if_neg q, if_neg (fun z => q z.2)]
theorem nthO_lt {ev : Nat} {L : List Ob} (h : WFo ev L) (h5 : ev ≤ 5) {k : Nat} (hk : k < L.length) : (nthD L k (0, 0, 0)).1 < 5 ∧ (nthD L k (0, 0, 0)).2.2 < 5 ∧ (nthD L k (0, 0, 0)).2.1 < 8192 := by
  obtain ⟨a1, a2, _, _, a5⟩ := h k hk
  exact ⟨by omega, by omega, a5⟩
set_option maxRecDepth 10000 in
theorem m_toldOf (I : SI) (J : SJ) (ev x y g : Nat) (L : List Ob) (h : MB I ev L) (hx : x < 5) (hy : y < 5) (hg : g < 2 ^ 31) (d : Nat) (hd : 0 < d) : Tri d YX9_toldOf 117 [vr 29 0, vi (nI x), vi (nI y), vi (nI g)] (S0 I J) (fun r σ => σ = S0 I J ∧ r = some (vi (nI (tldN L g.testBit L.length x y)))) := by
  refine Tri.of (M := MX9_toldOf) k_X9_toldOf ⟨Nat.le_refl _, Nat.le_refl _⟩ (Nat.le_of_ble_eq_true rfl) ?_
  obtain ⟨h1, h2, h5, hR, hw, hC⟩ := h
  have h8 := hR.2.1
  have e0 : I 30 0 (nI 0).toNatClampNeg = nI L.length := by rw [nI_clamp (by decide)]; exact hR.1
  generalize hQ : (fun (r : Option AV) (σ : ST) => σ = S0 I J ∧ r = some (vi (nI (tldN L g.testBit L.length x y)))) = Q
  have loop : ∀ (m k : Nat) (v : Option AV), k + m = L.length → Sat none MX9_toldOf d 117 Q 8 [some (vr 29 0), some (vi (nI x)), some (vi (nI y)), some (vi (nI g)), some (vi (nI (tldN L g.testBit k x y))), some (vi (nI k)), v] [] (S0 I J) := by
    intro m
    induction m with
    | zero =>
      intro k v hk
      have e : k = L.length := by omega
      subst e
      refine Sat.of k_X9_toldOf [8, 35, 74, 119] 60 ?_
      refine ⟨vp_in_nI (n := 0) (by decide) (by decide), fun c => ⟨rfl, trivial, ?_⟩, fun c => ?_⟩
      · rw [← hQ]
        exact ⟨rfl, rfl⟩
      · have c : ¬ I 30 0 (nI 0).toNatClampNeg ≤ nI L.length := c
        rw [e0] at c
        exact absurd (nI_le (Nat.le_refl _) (by omega)) c
    | succ m ih =>
      intro k v hk
      obtain ⟨o1, o2, o3⟩ := nthO_lt hw h5 (k := k) (by omega)
      generalize hA : (if g.testBit k = false ∧ (nthD L k (0, 0, 0)).1 = x ∧ (nthD L k (0, 0, 0)).2.2 = y then (nthD L k (0, 0, 0)).2.1 else 8191) = A
      generalize hB : (if g.testBit k = false ∧ (nthD L k (0, 0, 0)).1 = y ∧ (nthD L k (0, 0, 0)).2.2 = x then trn (nthD L k (0, 0, 0)).2.1 else 8191) = B
      have s119 : ∀ w b, w = B → Sat none MX9_toldOf d 117 Q 119 [some (vr 29 0), some (vi (nI x)), some (vi (nI y)), some (vi (nI g)), some (vi (nI (tldN L g.testBit k x y) &&& nI A)), some (vi (nI k)), some (vi (bi b))] [vi (nI w), vi (nI (tldN L g.testBit k x y) &&& nI A)] (S0 I J) := fun w b hw1 => by
        subst hw1
        refine Sat.of k_X9_toldOf [8, 35, 74, 119] 60 ?_
        refine (ih (k + 1) (some (vi (bi b))) (by omega)).to ?_ rfl
        rw [tld_step, hA, hB, ← nI_1, ← nx_an, ← nx_an]
        rfl
      have s74 : ∀ w, w = A → Sat none MX9_toldOf d 117 Q 74 [some (vr 29 0), some (vi (nI x)), some (vi (nI y)), some (vi (nI g)), some (vi (nI (tldN L g.testBit k x y))), some (vi (nI k)), some (vi (bi (!g.testBit k)))] [vi (nI w), vi (nI (tldN L g.testBit k x y))] (S0 I J) := fun w hw1 => by
        subst hw1
        refine Sat.of k_X9_toldOf [8, 35, 74, 119] 60 ?_
        refine ⟨fun c => s119 8191 (!g.testBit k) ?_, fun c => ⟨0, 117, hd, Nat.le_refl _, (m_x I J L k hR (by omega) 0).mono ?_⟩⟩
        · have c := bi_f c
          rw [← hB, if_neg (fun q => absurd (show (!g.testBit k) = true by rw [q.1]; rfl) (by rw [c]; decide))]
        · have c := bi_t c
          have gk : g.testBit k = false := by simpa using c
          rintro r σ ⟨rfl, rfl⟩
          refine ⟨fun c1 => s119 8191 (!g.testBit k) ?_, fun c1 => ⟨0, 117, hd, Nat.le_refl _, (m_y I J L k hR (by omega) 0).mono ?_⟩⟩
          · have c1 : ¬ nI (nthD L k (0, 0, 0)).1 = nI y := c1
            rw [← hB, if_neg (fun q => c1 (by rw [q.2.1]))]
          · have c1 : nI (nthD L k (0, 0, 0)).1 = nI y := c1
            rw [nI_eq (by omega) (by omega)] at c1
            rintro r σ ⟨rfl, rfl⟩
            refine ⟨fun c2 => s119 8191 (!g.testBit k) ?_, fun c2 => ⟨0, 117, hd, Nat.le_refl _, (m_set I J L k hR (by omega) 0).mono ?_⟩⟩
            · have c2 : ¬ nI (nthD L k (0, 0, 0)).2.2 = nI x := c2
              rw [← hB, if_neg (fun q => c2 (by rw [q.2.2]))]
            · have c2 : nI (nthD L k (0, 0, 0)).2.2 = nI x := c2
              rw [nI_eq (by omega) (by omega)] at c2
              rintro r σ ⟨rfl, rfl⟩
              refine ⟨0, 117, hd, Nat.le_refl _, (m_turnedSet I J _ o3 0).mono ?_⟩
              rintro r σ ⟨rfl, rfl⟩
              refine s119 _ (!g.testBit k) ?_
              rw [← hB, if_pos ⟨gk, c1, c2⟩]
      have s35 : ∀ b, b = !g.testBit k → Sat none MX9_toldOf d 117 Q 35 [some (vr 29 0), some (vi (nI x)), some (vi (nI y)), some (vi (nI g)), some (vi (nI (tldN L g.testBit k x y))), some (vi (nI k)), some (vi (bi b))] [] (S0 I J) := fun b hb => by
        subst hb
        refine Sat.of k_X9_toldOf [8, 35, 74, 119] 60 ?_
        refine ⟨fun c => s74 8191 ?_, fun c => ⟨0, 117, hd, Nat.le_refl _, (m_x I J L k hR (by omega) 0).mono ?_⟩⟩
        · have c := bi_f c
          rw [← hA, if_neg (fun q => absurd (show (!g.testBit k) = true by rw [q.1]; rfl) (by rw [c]; decide))]
        · have c := bi_t c
          have gk : g.testBit k = false := by simpa using c
          rintro r σ ⟨rfl, rfl⟩
          refine ⟨fun c1 => s74 8191 ?_, fun c1 => ⟨0, 117, hd, Nat.le_refl _, (m_y I J L k hR (by omega) 0).mono ?_⟩⟩
          · have c1 : ¬ nI (nthD L k (0, 0, 0)).1 = nI x := c1
            rw [← hA, if_neg (fun q => c1 (by rw [q.2.1]))]
          · have c1 : nI (nthD L k (0, 0, 0)).1 = nI x := c1
            rw [nI_eq (by omega) (by omega)] at c1
            rintro r σ ⟨rfl, rfl⟩
            refine ⟨fun c2 => s74 8191 ?_, fun c2 => ⟨0, 117, hd, Nat.le_refl _, (m_set I J L k hR (by omega) 0).mono ?_⟩⟩
            · have c2 : ¬ nI (nthD L k (0, 0, 0)).2.2 = nI y := c2
              rw [← hA, if_neg (fun q => c2 (by rw [q.2.2]))]
            · have c2 : nI (nthD L k (0, 0, 0)).2.2 = nI y := c2
              rw [nI_eq (by omega) (by omega)] at c2
              rintro r σ ⟨rfl, rfl⟩
              refine s74 _ ?_
              rw [← hA, if_pos ⟨gk, c1, c2⟩]
      have hgb := nx_bit (a := g) (r := k) hg (by omega)
      refine Sat.of k_X9_toldOf [8, 35, 74, 119] 60 ?_
      refine ⟨vp_in_nI (n := 0) (by decide) (by decide), fun c => ?_, fun c => ⟨fun c1 => s35 false ?_, fun c1 => s35 true ?_⟩⟩
      · have c : I 30 0 (nI 0).toNatClampNeg ≤ nI k := c
        rw [e0, nI_leI (by omega) (by omega)] at c
        omega
      · have c1 : ¬ (nI g >>> (nI k &&& 31)) &&& 1 = 0 := c1
        rw [hgb] at c1
        rw [bi_t c1]
        rfl
      · have c1 : (nI g >>> (nI k &&& 31)) &&& 1 = 0 := c1
        rw [hgb] at c1
        rw [bi_f c1]
        rfl
  refine Sat.of k_X9_toldOf [8] 60 ?_
  exact (loop L.length 0 none (by omega)).to rfl rfl
set_option maxRecDepth 10000 in
theorem m_pairs (I : SI) (J : SJ) (ev : Nat) (h : I 29 0 6 = nI ev) (h5 : ev ≤ 5) (d : Nat) : Tri d YX9_pairs 117 [vr 29 0] (S0 I J) (fun r σ => σ = S0 I J ∧ r = some (vi (nI (PRb 0 ev)))) := by
  refine Tri.of (M := MX9_pairs) k_X9_pairs ⟨Nat.le_refl _, Nat.le_refl _⟩ (Nat.le_of_ble_eq_true rfl) ?_
  refine Sat.of k_X9_pairs [] 60 ?_
  refine ⟨by decide, rfl, trivial, rfl, ?_⟩
  show some (vi (I 29 0 6 * (I 29 0 6 - 1) / 2)) = _
  rw [h, prs_tab ev (by omega)]
theorem m_pairOf (I : SI) (J : SJ) (lo hi : Nat) (h : lo < hi) (h5 : hi < 5) (d : Nat) : Tri d YX9_pairOf 117 [vi (nI lo), vi (nI hi)] (S0 I J) (fun r σ => σ = S0 I J ∧ r = some (vi (nI (PRb lo hi)))) := by
  refine Tri.of (M := MX9_pairOf) k_X9_pairOf ⟨Nat.le_refl _, Nat.le_refl _⟩ (Nat.le_of_ble_eq_true rfl) ?_
  refine Sat.of k_X9_pairOf [] 60 ?_
  refine ⟨by decide, rfl, trivial, rfl, ?_⟩
  show some (vi (nI hi * (nI hi - 1) / 2 + nI lo)) = _
  rw [pr_tab hi h5 lo h]
theorem hi_tab : ∀ p, p < 10 → (p < 1 → hiT p = 1) ∧ (1 ≤ p → p < 3 → hiT p = 2) ∧ (3 ≤ p → p < 6 → hiT p = 3) ∧ (6 ≤ p → hiT p = 4) := by decide +kernel
theorem lo_tab : ∀ p, p < 10 → nI p - nI (PRb 0 (hiT p)) = nI (loT p) ∧ 0 < hiT p ∧ hiT p < 5 := by decide +kernel
theorem m_highOf (I : SI) (J : SJ) (p : Nat) (h : p < 10) (d : Nat) : Tri d YX9_highOf 117 [vi (nI p)] (S0 I J) (fun r σ => σ = S0 I J ∧ r = some (vi (nI (hiT p)))) := by
  refine Tri.of (M := MX9_highOf) k_X9_highOf ⟨Nat.le_refl _, Nat.le_refl _⟩ (Nat.le_of_ble_eq_true rfl) ?_
  obtain ⟨t1, t2, t3, t4⟩ := hi_tab p h
  refine Sat.of k_X9_highOf [] 60 ?_
  refine ⟨fun c => ?_, fun c => ⟨rfl, trivial, rfl, ?_⟩⟩
  · have c := (nI_leI (a := 1) (b := p) (by decide) (by omega)).mp c
    refine ⟨fun c1 => ?_, fun c1 => ⟨rfl, trivial, rfl, ?_⟩⟩
    · have c1 := (nI_leI (a := 3) (b := p) (by decide) (by omega)).mp c1
      refine ⟨fun c2 => ⟨rfl, trivial, rfl, ?_⟩, fun c2 => ⟨rfl, trivial, rfl, ?_⟩⟩
      · have c2 := (nI_leI (a := 6) (b := p) (by decide) (by omega)).mp c2
        rw [t4 c2]
        rfl
      · have c2 : ¬ nI 6 ≤ nI p := c2
        rw [nI_leI (by decide) (by omega)] at c2
        rw [t3 c1 (by omega)]
        rfl
    · have c1 : ¬ nI 3 ≤ nI p := c1
      rw [nI_leI (by decide) (by omega)] at c1
      rw [t2 c (by omega)]
      rfl
  · have c : ¬ nI 1 ≤ nI p := c
    rw [nI_leI (by decide) (by omega)] at c
    rw [t1 (by omega)]
    rfl
theorem m_lowOf (I : SI) (J : SJ) (p : Nat) (h : p < 10) (d : Nat) (hd : 0 < d) : Tri d YX9_lowOf 117 [vi (nI p)] (S0 I J) (fun r σ => σ = S0 I J ∧ r = some (vi (nI (loT p)))) := by
  refine Tri.of (M := MX9_lowOf) k_X9_lowOf ⟨Nat.le_refl _, Nat.le_refl _⟩ (Nat.le_of_ble_eq_true rfl) ?_
  obtain ⟨t1, t2, t3⟩ := lo_tab p h
  refine Sat.of k_X9_lowOf [] 60 ?_
  refine ⟨0, 117, hd, Nat.le_refl _, (m_highOf I J p h 0).mono ?_⟩
  rintro r σ ⟨rfl, rfl⟩
  refine ⟨0, 117, hd, Nat.le_refl _, (m_pairOf I J 0 (hiT p) t2 t3 0).mono ?_⟩
  rintro r σ ⟨rfl, rfl⟩
  refine ⟨rfl, trivial, rfl, ?_⟩
  rw [← t1]
/-- what may be of two -/
def MAY (I : SI) (ev : Nat) (N : NF) : Prop := ∀ p, p < PRb 0 ev → I 41 0 p = nI (N (loT p) (hiT p)) ∧ N (loT p) (hiT p) < 8192
def frY (I I1 : SI) : Prop := ∀ a b, a ≠ 41 → I1 a b = I a b
theorem frY.M {I I1 : SI} (h : frY I I1) : frM I I1 := fun a b q => h a b (by omega)
set_option maxRecDepth 10000 in
theorem m_lets (I : SI) (J : SJ) (ev g : Nat) (L : List Ob) (h : MB I ev L) (hg : g < 2 ^ 31) (d : Nat) (hd : 1 < d) : Tri d YX9_lets 117 [vr 29 0, vi (nI g)] (S0 I J) (fun r σ => r = none ∧ ∃ I1, σ = S0 I1 J ∧ MAY I1 ev (tol L g.testBit) ∧ frY I I1) := by
  refine Tri.of (M := MX9_lets) k_X9_lets ⟨Nat.le_refl _, Nat.le_refl _⟩ (Nat.le_of_ble_eq_true rfl) ?_
  have h5 := h.2.2.1
  have p10 := PRb0_le ev (by omega)
  have loop : ∀ (m p : Nat) (I1 : SI), p + m = PRb 0 ev → frY I I1 → (∀ q, q < p → I1 41 0 q = nI (tol L g.testBit (loT q) (hiT q))) → Sat none MX9_lets d 117 (fun r σ => r = none ∧ ∃ I1, σ = S0 I1 J ∧ MAY I1 ev (tol L g.testBit) ∧ frY I I1) 2 [some (vr 29 0), some (vi (nI g)), some (vi (nI p))] [] (S0 I1 J) := by
    intro m
    induction m with
    | zero =>
      intro p I1 hp f1 f2
      have e : p = PRb 0 ev := by omega
      subst e
      refine Sat.of k_X9_lets [2] 60 ?_
      refine ⟨0, 117, by omega, Nat.le_refl _, (m_pairs I1 J ev (by rw [f1 29 0 (by decide)]; exact h.1) h5 0).mono ?_⟩
      rintro r σ ⟨rfl, rfl⟩
      refine ⟨fun c => ⟨rfl, rfl, rfl, I1, rfl, fun q hq => ⟨f2 q hq, ?_⟩, f1⟩, fun c => absurd (nI_le (Nat.le_refl _) (by omega)) c⟩
      obtain ⟨t1, t2, t3⟩ := lohi_t q (by omega)
      unfold tol tolN
      rw [if_neg (by omega)]
      exact tldN_lt
    | succ m ih =>
      intro p I1 hp f1 f2
      have ep : (nI p).toNatClampNeg = p := nI_clamp (by omega)
      obtain ⟨t1, t2, t3⟩ := lohi_t p (by omega)
      refine Sat.of k_X9_lets [2] 60 ?_
      refine ⟨0, 117, by omega, Nat.le_refl _, (m_pairs I1 J ev (by rw [f1 29 0 (by decide)]; exact h.1) h5 0).mono ?_⟩
      rintro r σ ⟨rfl, rfl⟩
      refine ⟨fun c => absurd ((nI_leI (a := PRb 0 ev) (by omega) (by omega)).mp c) (by omega), fun c => ⟨1, 117, hd, Nat.le_refl _, (m_lowOf I1 J p (by omega) 1 (by decide)).mono ?_⟩⟩
      rintro r σ ⟨rfl, rfl⟩
      refine ⟨0, 117, by omega, Nat.le_refl _, (m_highOf I1 J p (by omega) 0).mono ?_⟩
      rintro r σ ⟨rfl, rfl⟩
      refine ⟨1, 117, hd, Nat.le_refl _, (m_toldOf I1 J ev (loT p) (hiT p) g L (h.fr f1.M) (by omega) t2 hg 1 (by decide)).mono ?_⟩
      rintro r σ ⟨rfl, rfl⟩
      refine ⟨vp_in_nI (by omega) (by decide), (ih (p + 1) (uI I1 41 0 p (nI (tldN L g.testBit L.length (loT p) (hiT p)))) (by omega) (fun a b q => by rw [uI_tt q]; exact f1 a b q) (fun q hq => ?_)).to (by rw [← nI_1]; rfl) (show (uI I1 41 0 (nI p).toNatClampNeg _, J, 117, aT) = _ by rw [ep])⟩
      by_cases e : q = p
      · subst e
        rw [uI_at]
        unfold tol tolN
        rw [if_neg (by omega)]
      · rw [uI_j e]
        exact f2 q (by omega)
  refine Sat.of k_X9_lets [2] 60 ?_
  exact (loop (PRb 0 ev) 0 I (by omega) (fun _ _ _ => rfl) (fun q hq => absurd hq (by omega))).to rfl rfl
