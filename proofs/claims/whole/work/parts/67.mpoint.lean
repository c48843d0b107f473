/-! The model: point, count -/
theorem sub_neg {p q : Nat} (hp : p < 2 ^ 30) (hq : q < 2 ^ 30) : (nI p - nI q < 0 ↔ cmq p q = 0) ∧ (nI p - nI q = 0 ↔ cmq p q = 1) := by
  have h := pk_sub_toInt hp hq
  rw [cmq_0, cmq_1]
  constructor
  · constructor
    · intro g
      rcases Nat.lt_or_ge p q with z | z
      · exact z
      · rw [pk_sub z] at g
        exact absurd g (by rw [Int32.not_lt]; exact nI_le (a := 0) (by omega) (by omega))
    · intro g
      exact pk_sneg hq g
  · constructor
    · intro g
      rcases Nat.lt_or_ge p q with z | z
      · have := pk_sneg hq z
        rw [g] at this
        exact absurd this (by decide)
      · rw [pk_sub z, show (0 : Int32) = nI 0 from rfl, nI_eq (by omega) (by decide)] at g
        omega
    · intro g
      rw [g, pk_sub (Nat.le_refl _), Nat.sub_self]
      rfl
def farP (l : HS) (a b : Nat) : Nat := if a % 2 = 0 then bgT (relH l (a / 2) (b / 2)) else enT (relH l (a / 2) (b / 2))
def farR (b : Nat) : Nat := if b % 2 = 0 then 10 else 20
def cfr (l : HS) (a b : Nat) : Nat := if a / 2 = b / 2 then cmq a b else cmq (farP l a b) (farR b)
theorem fz_tab : ∀ r, r < 13 → (cmq (bgT r) 10 = zc1 (zb r) ∧ cmq (enT r) 10 = zc2 (zb r) ∧ cmq (bgT r) 20 = zc1 (ze r) ∧ cmq (enT r) 20 = zc2 (ze r)) ∧ (cmq (bgT (12 - r)) 10 = 2 - zc1 (zb r) ∧ cmq (enT (12 - r)) 10 = 2 - zc1 (ze r) ∧ cmq (bgT (12 - r)) 20 = 2 - zc2 (zb r) ∧ cmq (enT (12 - r)) 20 = 2 - zc2 (ze r)) := by decide +kernel
theorem cfr_t {ev : Nat} {B E : Nat → Nat} {l : HS} (hG : GP 1 ev B E) (hO : ONL ev B E l) (hl : L13 ev l) {a b : Nat} (ha : a < 2 * ev) (hb : b < 2 * ev) : cfr l a b = cmq (tmv B E a) (tmv B E b) := by
  unfold cfr
  have hB : ∀ z, z < ev → 1 ≤ B z ∧ B z < E z := fun z hz => ⟨(hG.1 (B z) ⟨z, hz, Or.inl rfl⟩).1, hG.2.2 z hz⟩
  by_cases e : a / 2 = b / 2
  · rw [if_pos e]
    have := hB (a / 2) (by omega)
    unfold tmv cmq
    rw [e] at this ⊢
    rcases Nat.mod_two_eq_zero_or_one a with m1 | m1 <;> rcases Nat.mod_two_eq_zero_or_one b with m2 | m2
    · rw [if_pos m1, if_pos m2, if_neg (show ¬ a < b by omega), if_pos (show a = b by omega), if_neg (by omega), if_pos rfl]
    · rw [if_pos m1, if_neg (show ¬ b % 2 = 0 by omega), if_pos (show a < b by omega), if_pos (by omega)]
    · rw [if_neg (show ¬ a % 2 = 0 by omega), if_pos m2, if_neg (show ¬ a < b by omega), if_neg (show ¬ a = b by omega), if_neg (by omega), if_neg (by omega)]
    · rw [if_neg (show ¬ a % 2 = 0 by omega), if_neg (show ¬ b % 2 = 0 by omega), if_neg (show ¬ a < b by omega), if_pos (show a = b by omega), if_neg (by omega), if_pos rfl]
  · rw [if_neg e]
    generalize hz : a / 2 = z at e
    generalize hw : b / 2 = w at e
    have hze : z < ev := by omega
    have hwe : w < ev := by omega
    unfold farP farR tmv
    rw [hz, hw]
    rcases Nat.lt_or_gt_of_ne e with q | q
    · have h13 := hl w hwe z q
      have hr := hO z w q hwe
      obtain ⟨c1, c2⟩ := inZ_c (zb_5 _ h13) hr.1 (hB z hze).2 (by have := hB z hze; omega)
      obtain ⟨c3, c4⟩ := inZ_c (ze_5 _ h13) hr.2 (hB z hze).2 (by have := hB z hze; omega)
      obtain ⟨⟨t1, t2, t3, t4⟩, _⟩ := fz_tab _ h13
      unfold relH
      rw [if_pos q]
      rcases Nat.mod_two_eq_zero_or_one a with m1 | m1 <;> rcases Nat.mod_two_eq_zero_or_one b with m2 | m2
      · rw [if_pos m1, if_pos m1, if_pos m2, if_pos m2, t1, c1]
      · rw [if_pos m1, if_pos m1, if_neg (show ¬ b % 2 = 0 by omega), if_neg (show ¬ b % 2 = 0 by omega), t3, c3]
      · rw [if_neg (show ¬ a % 2 = 0 by omega), if_neg (show ¬ a % 2 = 0 by omega), if_pos m2, if_pos m2, t2, c2]
      · rw [if_neg (show ¬ a % 2 = 0 by omega), if_neg (show ¬ a % 2 = 0 by omega), if_neg (show ¬ b % 2 = 0 by omega), if_neg (show ¬ b % 2 = 0 by omega), t4, c4]
    · have h13 := hl z hze w q
      have hr := hO w z q hze
      obtain ⟨c1, c2⟩ := inZ_c (zb_5 _ h13) hr.1 (hB w hwe).2 (by have := hB w hwe; omega)
      obtain ⟨c3, c4⟩ := inZ_c (ze_5 _ h13) hr.2 (hB w hwe).2 (by have := hB w hwe; omega)
      obtain ⟨_, ⟨t1, t2, t3, t4⟩⟩ := fz_tab _ h13
      unfold relH
      rw [if_neg (show ¬ z < w by omega)]
      rcases Nat.mod_two_eq_zero_or_one a with m1 | m1 <;> rcases Nat.mod_two_eq_zero_or_one b with m2 | m2
      · rw [if_pos m1, if_pos m1, if_pos m2, if_pos m2, t1, ← c1]
        exact cmq_sw.symm
      · rw [if_pos m1, if_pos m1, if_neg (show ¬ b % 2 = 0 by omega), if_neg (show ¬ b % 2 = 0 by omega), t3, ← c2]
        exact cmq_sw.symm
      · rw [if_neg (show ¬ a % 2 = 0 by omega), if_neg (show ¬ a % 2 = 0 by omega), if_pos m2, if_pos m2, t2, ← c3]
        exact cmq_sw.symm
      · rw [if_neg (show ¬ a % 2 = 0 by omega), if_neg (show ¬ a % 2 = 0 by omega), if_neg (show ¬ b % 2 = 0 by omega), if_neg (show ¬ b % 2 = 0 by omega), t4, ← c4]
        exact cmq_sw.symm
/-- what the model counts -/
def isPt (l : HS) (o : Option Nat) (a : Nat) : Bool := (match o with | none => true | some k => decide (cfr l a k = 0)) && allN a (fun b => !decide (cfr l a b = 1))
def mPts (ev : Nat) (l : HS) (o : Option Nat) : Nat := cntN (2 * ev) (isPt l o)
theorem cntN_congr {f g : Nat → Bool} : ∀ {n : Nat}, (∀ i, i < n → f i = g i) → cntN n f = cntN n g
  | 0, _ => rfl
  | n + 1, h => by
    simp only [cntN]
    rw [h n (by omega), cntN_congr (fun i hi => h i (by omega))]
theorem allN_congr {f g : Nat → Bool} : ∀ {n : Nat}, (∀ i, i < n → f i = g i) → allN n f = allN n g
  | 0, _ => rfl
  | n + 1, h => by
    simp only [allN]
    rw [h n (by omega), allN_congr (fun i hi => h i (by omega))]
theorem fst_eq {ev : Nat} {B E : Nat → Nat} {l : HS} (hG : GP 1 ev B E) (hO : ONL ev B E l) (hl : L13 ev l) {a : Nat} (ha : a < 2 * ev) : fstT B E a = allN a (fun b => !decide (cfr l a b = 1)) := by
  unfold fstT
  refine allN_congr (fun j hj => ?_)
  congr 1
  rw [Bool.eq_iff_iff, decide_eq_true_eq, decide_eq_true_eq, cfr_t hG hO hl ha (by omega), cmq_1]
  exact eq_comm
theorem mPts_k {ev : Nat} {B E : Nat → Nat} {l : HS} (hG : GP 1 ev B E) (hO : ONL ev B E l) (hl : L13 ev l) {k : Nat} (hk : k < 2 * ev) : ptsA ev B E (tmv B E k) = mPts ev l (some k) := by
  refine cntN_congr (fun a ha => ?_)
  unfold isPt
  rw [fst_eq hG hO hl ha]
  congr 1
  rw [Bool.eq_iff_iff, decide_eq_true_eq]
  simp only [decide_eq_true_eq]
  rw [cfr_t hG hO hl ha hk, cmq_0]
theorem mPts_n {ev : Nat} {B E : Nat → Nat} {l : HS} (hG : GP 1 ev B E) (hO : ONL ev B E l) (hl : L13 ev l) : ptsA ev B E 243 = mPts ev l none := by
  refine cntN_congr (fun a ha => ?_)
  unfold isPt
  rw [fst_eq hG hO hl ha]
  congr 1
  refine decide_eq_true ?_
  have h1 := hG.1 (B (a / 2)) ⟨a / 2, by omega, Or.inl rfl⟩
  have h2 := hG.1 (E (a / 2)) ⟨a / 2, by omega, Or.inr rfl⟩
  unfold tmv
  split <;> omega
/-- the first history of the model -/
def FST (I : SI) (ev : Nat) (l : HS) : Prop := ∀ p, p < PRb 0 ev → I 45 0 p = nI (l p)
theorem enT_lt : ∀ r, r < 13 → bgT r < 2 ^ 30 ∧ enT r < 2 ^ 30 := by decide +kernel
set_option maxRecDepth 10000 in
theorem m_farOf (I : SI) (J : SJ) (ev a b : Nat) (l : HS) (hC : MC I) (h : FST I ev l) (hl : L13 ev l) (h5 : ev ≤ 5) (ha : a < 2 * ev) (hb : b < 2 * ev) (d : Nat) (hd : 0 < d) : Tri d YX9_farOf 117 [vr 29 0, vi (nI a), vi (nI b)] (S0 I J) (fun r σ => σ = S0 I J ∧ ∃ v, r = some (vi v) ∧ (v < 0 ↔ cfr l a b = 0) ∧ (v = 0 ↔ cfr l a b = 1)) := by
  refine Tri.of (M := MX9_farOf) k_X9_farOf ⟨Nat.le_refl _, Nat.le_refl _⟩ (Nat.le_of_ble_eq_true rfl) ?_
  have p10 := PRb0_le ev (by omega)
  generalize hQ : (fun (r : Option AV) (σ : ST) => σ = S0 I J ∧ ∃ v, r = some (vi v) ∧ (v < 0 ↔ cfr l a b = 0) ∧ (v = 0 ↔ cfr l a b = 1)) = Q
  have ea : nI a / 2 = nI (a / 2) := pk_div (a := a) (d := 2) (by omega) (by decide) (by decide)
  have eb : nI b / 2 = nI (b / 2) := pk_div (a := b) (d := 2) (by omega) (by decide) (by decide)
  have eam : nI a - nI a / 2 * 2 = nI (a % 2) := pk_rem (a := a) (d := 2) (by omega) (by decide) (by decide)
  have ebm : nI b - nI b / 2 * 2 = nI (b % 2) := pk_rem (a := b) (d := 2) (by omega) (by decide) (by decide)
  generalize hz : a / 2 = z at ea
  generalize hw : b / 2 = w at eb
  have hze : z < ev := by omega
  have hwe : w < ev := by omega
  have hmain : Sat none MX9_farOf d 117 Q 9 [some (vr 29 0), some (vi (nI a)), some (vi (nI b)), some (vi (nI z)), some (vi (nI w)), none] [] (S0 I J) := by
    by_cases e : z = w
    · refine Sat.of k_X9_farOf [] 60 ?_
      refine ⟨fun c => absurd (by rw [e]) c, fun _ => ⟨rfl, trivial, ?_⟩⟩
      rw [← hQ]
      refine ⟨rfl, _, rfl, ?_⟩
      unfold cfr
      rw [hz, hw, if_pos e]
      exact sub_neg (by omega) (by omega)
    · have hr13 : relH l z w < 13 := hl.rel hze hwe
      have s91 : Sat none MX9_farOf d 117 Q 91 [some (vr 29 0), some (vi (nI a)), some (vi (nI b)), some (vi (nI z)), some (vi (nI w)), some (vi (nI (relH l z w)))] [vi (nI (farR b)), vi (nI (farP l a b))] (S0 I J) := by
        refine Sat.of k_X9_farOf [] 60 ?_
        refine ⟨rfl, trivial, ?_⟩
        rw [← hQ]
        refine ⟨rfl, _, rfl, ?_⟩
        unfold cfr
        rw [hz, hw, if_neg e]
        refine sub_neg ?_ ?_
        · unfold farP
          rw [hz, hw]
          split
          · exact (enT_lt _ hr13).1
          · exact (enT_lt _ hr13).2
        · unfold farR
          split <;> decide
      have s78 : Sat none MX9_farOf d 117 Q 78 [some (vr 29 0), some (vi (nI a)), some (vi (nI b)), some (vi (nI z)), some (vi (nI w)), some (vi (nI (relH l z w)))] [vi (nI (farP l a b))] (S0 I J) := by
        refine Sat.of k_X9_farOf [91] 60 ?_
        refine ⟨by decide, fun c => ?_, fun c => ?_⟩
        · have c : ¬ nI b - nI b / 2 * 2 = 0 := c
          rw [ebm] at c
          have : farR b = 20 := by
            unfold farR
            rw [if_neg (fun q => c (by rw [q]; rfl))]
          rw [this] at s91
          exact s91
        · have c : nI b - nI b / 2 * 2 = 0 := c
          rw [ebm, show (0 : Int32) = nI 0 from rfl, nI_eq (by omega) (by decide)] at c
          have : farR b = 10 := by
            unfold farR
            rw [if_pos c]
          rw [this] at s91
          exact s91
      have s53 : ∀ v, v = relH l z w → Sat none MX9_farOf d 117 Q 53 [some (vr 29 0), some (vi (nI a)), some (vi (nI b)), some (vi (nI z)), some (vi (nI w)), none] [vi (nI v)] (S0 I J) := fun v hv => by
        subst hv
        have er : (nI (relH l z w)).toNatClampNeg = relH l z w := nI_clamp (by omega)
        refine Sat.of k_X9_farOf [78] 60 ?_
        refine ⟨by decide, fun c => ⟨vp_in_nI (by omega) (by decide), ?_⟩, fun c => ⟨vp_in_nI (by omega) (by decide), ?_⟩⟩
        · have c : ¬ nI a - nI a / 2 * 2 = 0 := c
          rw [eam] at c
          have : farP l a b = enT (relH l z w) := by
            unfold farP
            rw [if_neg (fun q => c (by rw [q]; rfl)), hz, hw]
          rw [this] at s78
          show Sat none MX9_farOf d 117 Q 78 _ [vi (I 39 0 (nI (relH l z w)).toNatClampNeg)] (S0 I J)
          rw [er, hC.2.1 _ hr13]
          exact s78
        · have c : nI a - nI a / 2 * 2 = 0 := c
          rw [eam, show (0 : Int32) = nI 0 from rfl, nI_eq (by omega) (by decide)] at c
          have : farP l a b = bgT (relH l z w) := by
            unfold farP
            rw [if_pos c, hz, hw]
          rw [this] at s78
          show Sat none MX9_farOf d 117 Q 78 _ [vi (I 38 0 (nI (relH l z w)).toNatClampNeg)] (S0 I J)
          rw [er, hC.1 _ hr13]
          exact s78
      refine Sat.of k_X9_farOf [53] 60 ?_
      refine ⟨fun _ => ⟨fun c => ?_, fun c => ?_⟩, fun c => absurd ((nI_eq (a := z) (b := w) (by omega) (by omega)).mp c) e⟩
      · have c : nI w ≤ nI z := c
        rw [nI_leI (by omega) (by omega)] at c
        have hq := pr0_lt ev (by omega) z hze w (by omega)
        have h13 := hl z hze w (by omega)
        refine ⟨0, 117, hd, Nat.le_refl _, (m_pairOf I J w z (by omega) (by omega) 0).mono ?_⟩
        rintro r σ ⟨rfl, rfl⟩
        refine ⟨vp_in_nI (by omega) (by decide), ?_⟩
        show Sat none MX9_farOf d 117 Q 53 _ [vi ((12 : Int32) - I 45 0 (nI (PRb w z)).toNatClampNeg)] (S0 I J)
        rw [nI_clamp (by omega), h _ hq, show (12 : Int32) = nI 12 from rfl, pk_sub (by omega)]
        refine s53 _ ?_
        unfold relH
        rw [if_neg (by omega)]
      · have c : ¬ nI w ≤ nI z := c
        rw [nI_leI (by omega) (by omega)] at c
        have hq := pr0_lt ev (by omega) w hwe z (by omega)
        refine ⟨0, 117, hd, Nat.le_refl _, (m_pairOf I J z w (by omega) (by omega) 0).mono ?_⟩
        rintro r σ ⟨rfl, rfl⟩
        refine ⟨vp_in_nI (by omega) (by decide), ?_⟩
        show Sat none MX9_farOf d 117 Q 53 _ [vi (I 45 0 (nI (PRb z w)).toNatClampNeg)] (S0 I J)
        rw [nI_clamp (by omega), h _ hq]
        refine s53 _ ?_
        unfold relH
        rw [if_pos (by omega)]
  refine Sat.of k_X9_farOf [9] 60 ?_
  refine ⟨by decide, by decide, hmain.to ?_ rfl⟩
  show [some (vr 29 0), some (vi (nI a)), some (vi (nI b)), some (vi (nI a / 2)), some (vi (nI b / 2)), none] = _
  rw [ea, eb]
/-- the number of an end, or none -/
def endV (o : Option Nat) : Int32 := match o with
  | none => -9
  | some k => nI k
set_option maxRecDepth 10000 in
theorem m_timesAhead (I : SI) (J : SJ) (ev : Nat) (l : HS) (o : Option Nat) (hE : I 29 0 6 = nI ev) (hC : MC I) (h : FST I ev l) (hl : L13 ev l) (h5 : ev ≤ 5) (ho : ∀ k, o = some k → k < 2 * ev) (d : Nat) (hd : 1 < d) : Tri d YX9_timesAhead 117 [vr 29 0, vi (endV o)] (S0 I J) (fun r σ => σ = S0 I J ∧ r = some (vi (nI (mPts ev l o)))) := by
  refine Tri.of (M := MX9_timesAhead) k_X9_timesAhead ⟨Nat.le_refl _, Nat.le_refl _⟩ (Nat.le_of_ble_eq_true rfl) ?_
  generalize hQ : (fun (r : Option AV) (σ : ST) => σ = S0 I J ∧ r = some (vi (nI (mPts ev l o)))) = Q
  have e2 : (2 : Int32) * I 29 0 6 = nI (2 * ev) := by rw [hE, show (2 : Int32) = nI 2 from rfl, pk_mul]
  have loop : ∀ (m a : Nat), a + m = 2 * ev → Sat none MX9_timesAhead d 117 Q 4 [some (vr 29 0), some (vi (endV o)), some (vi (nI (cntN a (isPt l o)))), some (vi (nI a)), none, none] [] (S0 I J) := by
    intro m
    induction m with
    | zero =>
      intro a ha
      have e : a = 2 * ev := by omega
      subst e
      refine Sat.of k_X9_timesAhead [4] 60 ?_
      refine ⟨fun _ => ⟨rfl, trivial, ?_⟩, fun c => ?_⟩
      · rw [← hQ]
        exact ⟨rfl, rfl⟩
      · have c : ¬ (2 : Int32) * I 29 0 6 ≤ nI (2 * ev) := c
        rw [e2] at c
        exact absurd (nI_le (Nat.le_refl _) (by omega)) c
    | succ m ih =>
      intro a ha
      generalize hb0 : (match o with | none => true | some k => decide (cfr l a k = 0)) = b0
      generalize hg : (fun b => !decide (cfr l a b = 1)) = g
      have hpt : isPt l o a = (b0 && allN a g) := by
        unfold isPt
        rw [hg, ← hb0]
      have s73 : ∀ b : Bool, b = isPt l o a → ∀ v, Sat none MX9_timesAhead d 117 Q 73 [some (vr 29 0), some (vi (endV o)), some (vi (nI (cntN a (isPt l o)))), some (vi (nI a)), some (vi (bi b)), v] [] (S0 I J) := fun b hb v => by
        refine Sat.of k_X9_timesAhead [4] 60 ?_
        refine ⟨fun c => ?_, fun c => ?_⟩
        · have c := bi_f c
          refine (ih (a + 1) (by omega)).lw ⟨rfl, rfl, ?_, by rw [← nI_1 a], trivial⟩ rfl
          show some (vi (nI (cntN a (isPt l o)) + nI 0)) = _
          simp only [cntN]
          rw [← hb, c, nI_add]
          rfl
        · have c := bi_t c
          refine (ih (a + 1) (by omega)).lw ⟨rfl, rfl, ?_, by rw [← nI_1 a], trivial⟩ rfl
          show some (vi (nI (cntN a (isPt l o)) + nI 1)) = _
          simp only [cntN]
          rw [← hb, c, nI_add]
          rfl
      have inner : ∀ (z b : Nat), b + z = a → Sat none MX9_timesAhead d 117 Q 39 [some (vr 29 0), some (vi (endV o)), some (vi (nI (cntN a (isPt l o)))), some (vi (nI a)), some (vi (bi (b0 && allN b g))), some (vi (nI b))] [] (S0 I J) := by
        intro z
        induction z with
        | zero =>
          intro b hb
          have e : b = a := by omega
          subst e
          refine Sat.of k_X9_timesAhead [73] 60 ?_
          exact ⟨fun _ => s73 _ hpt.symm _, fun c => absurd (nI_le (Nat.le_refl _) (by omega)) c⟩
        | succ z ihz =>
          intro b hb
          have s65 : ∀ q : Bool, q = (b0 && allN (b + 1) g) → Sat none MX9_timesAhead d 117 Q 65 [some (vr 29 0), some (vi (endV o)), some (vi (nI (cntN a (isPt l o)))), some (vi (nI a)), some (vi (bi (b0 && allN b g))), some (vi (nI b))] [vi (bi q)] (S0 I J) := fun q hq => by
            refine Sat.of k_X9_timesAhead [39] 60 ?_
            refine (ihz (b + 1) (by omega)).to ?_ rfl
            rw [← hq, ← nI_1 b]
            rfl
          refine Sat.of k_X9_timesAhead [39, 65, 73] 60 ?_
          refine ⟨fun c => absurd ((nI_leI (a := a) (by omega) (by omega)).mp c) (by omega), fun _ => ⟨fun c => s65 false ?_, fun c => ⟨1, 117, hd, Nat.le_refl _, (m_farOf I J ev a b l hC h hl h5 (by omega) (by omega) 1 (by decide)).mono ?_⟩⟩⟩
          · have c := bi_f c
            simp only [allN]
            rw [← Bool.and_assoc, c, Bool.false_and]
          · have c := bi_t c
            rintro r σ ⟨rfl, v, rfl, v1, v2⟩
            have hgb : g b = !decide (cfr l a b = 1) := by rw [← hg]
            refine ⟨fun c1 => s65 false ?_, fun c1 => s65 true ?_⟩
            · have c1 : v = 0 := c1
              simp only [allN]
              rw [← Bool.and_assoc, c, Bool.true_and, hgb, decide_eq_true (v2.mp c1)]
              rfl
            · have c1 : ¬ v = 0 := c1
              simp only [allN]
              rw [← Bool.and_assoc, c, Bool.true_and, hgb, decide_eq_false (fun q => c1 (v2.mpr q))]
              rfl
      have s34 : ∀ b : Bool, b = b0 → Sat none MX9_timesAhead d 117 Q 34 [some (vr 29 0), some (vi (endV o)), some (vi (nI (cntN a (isPt l o)))), some (vi (nI a)), none, none] [vi (bi b)] (S0 I J) := fun b hb => by
        subst hb
        refine Sat.of k_X9_timesAhead [39] 60 ?_
        refine (inner a 0 (by omega)).to ?_ rfl
        simp only [allN, Bool.and_true]
        rfl
      have hlt : ¬ (2 : Int32) * I 29 0 6 ≤ nI a := fun c => by
        rw [e2, nI_leI (by omega) (by omega)] at c
        omega
      cases ho1 : o with
      | none =>
        rw [ho1] at s34 hb0
        refine Sat.of k_X9_timesAhead [34] 60 ?_
        exact ⟨fun c => absurd c hlt, fun _ => ⟨fun _ => s34 true hb0, fun c => absurd rfl c⟩⟩
      | some k =>
        rw [ho1] at s34 hb0
        have hk := ho k ho1
        refine Sat.of k_X9_timesAhead [34] 60 ?_
        refine ⟨fun c => absurd c hlt, fun _ => ⟨fun c => absurd c (nI_m9 (by omega)), fun _ => ⟨1, 117, hd, Nat.le_refl _, (m_farOf I J ev a k l hC h hl h5 (by omega) hk 1 (by decide)).mono ?_⟩⟩⟩
        rintro r σ ⟨rfl, v, rfl, v1, v2⟩
        refine ⟨fun c => s34 false ?_, fun c => s34 true ?_⟩
        · have c : 0 ≤ v := c
          rw [← hb0]
          exact (decide_eq_false (fun q => absurd (v1.mpr q) (by rw [Int32.not_lt]; exact c))).symm
        · have c : ¬ 0 ≤ v := c
          rw [← hb0]
          exact (decide_eq_true (v1.mp (Int32.not_le.mp c))).symm
  refine Sat.of k_X9_timesAhead [4] 60 ?_
  exact (loop (2 * ev) 0 (by omega)).to rfl rfl
