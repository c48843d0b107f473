/-! The model: tokens looked at -/
/-- the tokens that are still to come -/
def ATT (I : SI) (t : Nat → Nat) (n : Nat) (R : Toks) : Prop := ∃ (T : Toks) (a : Nat), TKM I t n T ∧ T.length ≤ 160 ∧ (∀ q ∈ T, q.1 < n ∧ q.2 = tkE t n q.1) ∧ I 29 0 28 = nI a ∧ a ≤ T.length ∧ T.drop a = R
theorem TK1.k {I I1 : SI} {t : Nat → Nat} {n j : Nat} {q : Nat × Nat} (h : TK1 I t n j q) (h47 : I1 47 0 = I 47 0) (h48 : I1 48 0 = I 48 0) (h49 : I1 49 0 = I 49 0) (h50 : I1 50 0 = I 50 0) : TK1 I1 t n j q := by
  unfold TK1 at h ⊢
  rw [h47, h48, h49, h50]
  exact h
theorem ATT.k {I I1 : SI} {t : Nat → Nat} {n : Nat} {R : Toks} (h : ATT I t n R) (h27 : I1 29 0 27 = I 29 0 27) (h28 : I1 29 0 28 = I 29 0 28) (h47 : I1 47 0 = I 47 0) (h48 : I1 48 0 = I 48 0) (h49 : I1 49 0 = I 49 0) (h50 : I1 50 0 = I 50 0) : ATT I1 t n R := by
  obtain ⟨T, a, m, q1, q2, q3, q4, q5⟩ := h
  exact ⟨T, a, ⟨by rw [h27]; exact m.1, fun j hj => (m.2 j hj).k h47 h48 h49 h50⟩, q1, q2, by rw [h28]; exact q3, q4, q5⟩
theorem ATT.nil {I : SI} {t : Nat → Nat} {n : Nat} (h : ATT I t n []) : ∃ a m, I 29 0 28 = nI a ∧ I 29 0 27 = nI m ∧ m ≤ a ∧ a ≤ 160 := by
  obtain ⟨T, a, m, q1, q2, q3, q4, q5⟩ := h
  refine ⟨a, T.length, q3, m.1, ?_, by omega⟩
  rcases Nat.lt_or_ge a T.length with z | z
  · rw [drop_cons (z := (0, 0)) z] at q5
    cases q5
  · exact z
theorem ATT.cons {I : SI} {t : Nat → Nat} {n p e : Nat} {r : Toks} (h : ATT I t n ((p, e) :: r)) : ∃ a m, I 29 0 28 = nI a ∧ I 29 0 27 = nI m ∧ a < m ∧ m ≤ 160 ∧ TK1 I t n a (p, e) ∧ p < n ∧ e = tkE t n p ∧ ATT (uI I 29 0 28 (nI (a + 1))) t n r := by
  obtain ⟨T, a, m, q1, q2, q3, q4, q5⟩ := h
  rcases Nat.lt_or_ge a T.length with z | z
  · rw [drop_cons (z := (0, 0)) z, List.cons.injEq] at q5
    have hm : (p, e) ∈ T := by
      rw [← q5.1]
      have := List.mem_of_getElem? (nthD_get T a (0, 0) z)
      exact this
    have h1 := m.2 a z
    rw [q5.1] at h1
    refine ⟨a, T.length, q3, m.1, z, q1, h1, (q2 _ hm).1, (q2 _ hm).2, T, a + 1, ⟨by rw [uI_j (by decide)]; exact m.1, fun j hj => (m.2 j hj).u29⟩, q1, q2, uI_at, by omega, q5.2⟩
  · rw [List.drop_eq_nil_of_le z] at q5
    cases q5
def kdR (t : Nat → Nat) (n : Nat) (R : Toks) (κ : Nat) : Bool := match R with
  | [] => false
  | (p, e) :: _ => decide (mkd t n p e = κ)
set_option maxRecDepth 10000 in
theorem m_isKind (I : SI) (J : SJ) (n κ : Nat) (t : Nat → Nat) (R : Toks) (h : ATT I t n R) (hκ : κ < 5) (d : Nat) : Tri d YX9_isKind 117 [vr 29 0, vi (nI κ)] (S0 I J) (fun r σ => σ = S0 I J ∧ r = some (vi (bi (kdR t n R κ)))) := by
  refine Tri.of (M := MX9_isKind) k_X9_isKind ⟨Nat.le_refl _, Nat.le_refl _⟩ (Nat.le_of_ble_eq_true rfl) ?_
  refine Sat.of k_X9_isKind [] 60 ?_
  cases R with
  | nil =>
    obtain ⟨a, m, e1, e2, h3, h4⟩ := h.nil
    refine ⟨fun _ => ⟨rfl, Or.inl rfl, rfl, rfl⟩, fun c => ?_⟩
    have c : ¬ I 29 0 27 ≤ I 29 0 28 := c
    rw [e1, e2] at c
    exact absurd (nI_le h3 (by omega)) c
  | cons x r =>
    obtain ⟨p, e⟩ := x
    obtain ⟨a, m, e1, e2, h3, h4, h5, _⟩ := h.cons
    have ek : I 47 0 (I 29 0 28).toNatClampNeg = nI (mkd t n p e) := by rw [e1, nI_clamp (by omega)]; exact h5.2.2.1
    have hl := mkd_lt (t := t) (n := n) (p := p) (e := e)
    refine ⟨fun c => ?_, fun _ => ⟨?_, fun c => ⟨rfl, Or.inl rfl, rfl, ?_⟩, fun c => ⟨rfl, Or.inr rfl, rfl, ?_⟩⟩⟩
    · have c : I 29 0 27 ≤ I 29 0 28 := c
      rw [e1, e2, nI_leI (by omega) (by omega)] at c
      omega
    · show vp_in (I 29 0 28) 160
      rw [e1]
      exact vp_in_nI (by omega) (by decide)
    · have c : ¬ I 47 0 (I 29 0 28).toNatClampNeg = nI κ := c
      rw [ek] at c
      simp only [kdR]
      rw [decide_eq_false (fun q => c (by rw [q]))]
      rfl
    · have c : I 47 0 (I 29 0 28).toNatClampNeg = nI κ := c
      rw [ek, nI_eq (by omega) (by omega)] at c
      simp only [kdR]
      rw [decide_eq_true c]
      rfl
def ltN (t : Nat → Nat) (p e i : Nat) : Nat := if i < e - p then t (p + i) else 0
theorem tkE_le {t : Nat → Nat} {n p : Nat} (h : p < n) : tkE t n p ≤ n := by
  unfold tkE
  split
  · exact (pst_le (P := ruP t (kAt t n p)) (n := n) (m := n - p) (k := p) (by omega)).2.1
  · split <;> omega
set_option maxRecDepth 10000 in
theorem m_letterAt (I : SI) (J : SJ) (n p e i : Nat) (t : Nat → Nat) (r : Toks) (h : ATT I t n ((p, e) :: r)) (hX : MTX I n t) (hi : i < 2 ^ 30) (d : Nat) : Tri d YX9_letterAt 117 [vr 29 0, vi (nI i)] (S0 I J) (fun v σ => σ = S0 I J ∧ v = some (vi (nI (ltN t p e i)))) := by
  refine Tri.of (M := MX9_letterAt) k_X9_letterAt ⟨Nat.le_refl _, Nat.le_refl _⟩ (Nat.le_of_ble_eq_true rfl) ?_
  obtain ⟨a, m, e1, e2, h3, h4, ⟨h5, h6, _⟩, h7, h8, _⟩ := h.cons
  have hle := tkE_le (t := t) h7
  rw [← h8] at hle
  have hn := hX.2.1
  have ea : (I 29 0 28).toNatClampNeg = a := by rw [e1, nI_clamp (by omega)]
  have hva : vp_in (I 29 0 28) 160 := by rw [e1]; exact vp_in_nI (by omega) (by decide)
  have h6 : I 49 0 a = nI (e - p) := h6
  have h5 : I 48 0 a = nI p := h5
  refine Sat.of k_X9_letterAt [] 60 ?_
  refine ⟨hva, fun c => ⟨rfl, trivial, rfl, ?_⟩, fun c => ⟨hva, ?_⟩⟩
  · have c : I 49 0 (I 29 0 28).toNatClampNeg ≤ nI i := c
    rw [ea, h6, nI_leI (by omega) (by omega)] at c
    unfold ltN
    rw [if_neg (by omega)]
    rfl
  · have c : ¬ I 49 0 (I 29 0 28).toNatClampNeg ≤ nI i := c
    rw [ea, h6, nI_leI (by omega) (by omega)] at c
    have ix : I 48 0 (I 29 0 28).toNatClampNeg + nI i = nI (p + i) := by rw [ea, h5, nI_add]
    refine ⟨?_, rfl, trivial, rfl, ?_⟩
    · show vp_in (I 48 0 (I 29 0 28).toNatClampNeg + nI i) 160
      rw [ix]
      exact vp_in_nI (by omega) (by decide)
    · show some (vi (I 46 0 (I 48 0 (I 29 0 28).toNatClampNeg + nI i).toNatClampNeg)) = _
      unfold ltN
      rw [ix, nI_clamp (by omega), (hX.2.2 (p + i) (by omega)).1, if_pos (by omega)]
def wrds : List Int64 := [195604139008, 74305836032, 119929392128, 126318804992, 538628378259, 800617445376, 800617136128, 704008951392, 654350221312]
def wL (w : Nat) : Int64 := nthD wrds w 0
def dueN (w i : Nat) : Nat := if i < nthD slen w 0 then chr w i - 96 else 0
def exN (w i : Nat) : Nat := if i < nthD slen w 0 then chr w i else 0
theorem due_t : ∀ w, w < 9 → ∀ i, i < 8 → ((wL w >>> (((5 : Int32) * (7 - nI i)).toInt64 &&& 63)) &&& 31).toInt32 = nI (dueN w i) := by decide +kernel
theorem due_x : ∀ w, w < 9 → ∀ i, i < 8 → (dueN w i = 0 → exN w i = 0) ∧ (dueN w i ≠ 0 → (97 : Int32) + nI (dueN w i) - 1 = nI (exN w i)) ∧ dueN w i < 32 ∧ exN w i < 256 := by decide +kernel
theorem ex_t : ∀ w, w < 9 → nthD slen w 0 ≤ 8 ∧ (∀ i, i < 8 → (i < nthD slen w 0 → exN w i = chr w i ∧ chr w i ≠ 0) ∧ (nthD slen w 0 ≤ i → exN w i = 0)) := by decide +kernel
theorem tok_let {t : Nat → Nat} {n p i : Nat} (hp : p < n) (hk : kAt t n p = 1) (h1 : p ≤ i) (h2 : i < tkE t n p) : 97 ≤ t i ∧ t i ≤ 122 := by
  unfold tkE at h2
  rw [hk, if_pos (Or.inl rfl)] at h2
  exact kd1.mp (of_decide_eq_true ((pst_le (P := ruP t 1) (n := n) (m := n - p) (k := p) (by omega)).2.2.1 i h1 h2))
theorem wd_eq {t : Nat → Nat} {n p e w : Nat} (hw : w < 9) (hp : p < n) (he : e = tkE t n p) : ((decide (mkd t n p e = 2) && decide (e - p < 9)) && allN 8 (fun i => decide (ltN t p e i = exN w i))) = isW t n w p e := by
  obtain ⟨x1, x2⟩ := ex_t w hw
  have hk : mkd t n p e = 2 ↔ kAt t n p = 1 := by
    unfold mkd
    by_cases q : kAt t n p = 1
    · rw [if_pos q]
      exact ⟨fun _ => q, fun _ => rfl⟩
    · rw [if_neg q]
      refine ⟨fun z => ?_, fun z => absurd z q⟩
      split at z
      · split at z <;> cases z
      · split at z <;> cases z
  have hgt := tkE_gt (t := t) hp
  rw [← he] at hgt
  unfold isW
  rw [Bool.eq_iff_iff, Bool.and_eq_true, Bool.and_eq_true, Bool.and_eq_true, Bool.and_eq_true, decide_eq_true_eq, decide_eq_true_eq, decide_eq_true_eq, decide_eq_true_eq, allN_t, allN_t, hk]
  constructor
  · rintro ⟨⟨q1, q2⟩, q3⟩
    have hlet : ∀ i, i < e - p → t (p + i) ≠ 0 := fun i hi => by
      have := tok_let hp q1 (show p ≤ p + i by omega) (by rw [← he]; omega)
      omega
    have hsz : e - p = nthD slen w 0 := by
      rcases Nat.lt_trichotomy (e - p) (nthD slen w 0) with z | z | z
      · have h1 := of_decide_eq_true (q3 (e - p) (by omega))
        unfold ltN at h1
        rw [if_neg (by omega)] at h1
        have h2 := (x2 (e - p) (by omega)).1 z
        rw [h2.1] at h1
        exact absurd h1.symm h2.2
      · exact z
      · have h1 := of_decide_eq_true (q3 (nthD slen w 0) (by omega))
        unfold ltN at h1
        rw [if_pos z, (x2 _ (by omega)).2 (Nat.le_refl _)] at h1
        exact absurd h1 (hlet _ z)
    refine ⟨⟨q1, hsz⟩, fun i hi => decide_eq_true ?_⟩
    have h1 := of_decide_eq_true (q3 i (by omega))
    unfold ltN at h1
    rw [if_pos (by omega), ((x2 i (by omega)).1 hi).1] at h1
    exact h1
  · rintro ⟨⟨q1, q2⟩, q3⟩
    refine ⟨⟨q1, by omega⟩, fun i hi => decide_eq_true ?_⟩
    unfold ltN
    by_cases z : i < e - p
    · rw [if_pos z, ((x2 i hi).1 (by omega)).1]
      exact of_decide_eq_true (q3 i (by omega))
    · rw [if_neg z, (x2 i hi).2 (by omega)]
def wdR (t : Nat → Nat) (n w : Nat) (R : Toks) : Bool := match R with
  | [] => false
  | (p, e) :: _ => isW t n w p e
set_option maxRecDepth 10000 in
theorem m_isWord (I : SI) (J : SJ) (n w : Nat) (t : Nat → Nat) (R : Toks) (h : ATT I t n R) (hX : MTX I n t) (hw : w < 9) (d : Nat) (hd : 0 < d) : Tri d YX9_isWord 117 [vr 29 0, vl (wL w)] (S0 I J) (fun r σ => σ = S0 I J ∧ r = some (vi (bi (wdR t n w R)))) := by
  refine Tri.of (M := MX9_isWord) k_X9_isWord ⟨Nat.le_refl _, Nat.le_refl _⟩ (Nat.le_of_ble_eq_true rfl) ?_
  generalize hQ : (fun (r : Option AV) (σ : ST) => σ = S0 I J ∧ r = some (vi (bi (wdR t n w R)))) = Q
  cases R with
  | nil =>
    refine Sat.of k_X9_isWord [] 60 ?_
    refine ⟨0, 117, hd, Nat.le_refl _, (m_isKind I J n 2 t [] h (by decide) 0).mono ?_⟩
    rintro r σ ⟨rfl, rfl⟩
    refine ⟨fun _ => ⟨fun q => absurd q (by decide), fun _ => ⟨fun _ => ⟨rfl, Or.inl rfl, ?_⟩, fun q => absurd rfl q⟩⟩, fun q => absurd rfl q⟩
    rw [← hQ]
    exact ⟨rfl, rfl⟩
  | cons x rr =>
    obtain ⟨p, e⟩ := x
    obtain ⟨a, m, e1, e2, h3, h4, h5, h7, h8, _⟩ := h.cons
    have heq := wd_eq hw h7 h8
    have hle := tkE_le (t := t) h7
    rw [← h8] at hle
    have hn := hX.2.1
    generalize hb0 : (decide (mkd t n p e = 2) && decide (e - p < 9)) = b0 at heq
    generalize hf : (fun i => decide (ltN t p e i = exN w i)) = f at heq
    have hlt : ∀ i, ltN t p e i ≤ 255 := fun i => by
      unfold ltN
      split
      · exact (hX.2.2 (p + i) (by omega)).2
      · decide
    have fin : ∀ (z : Nat), z ≤ 8 → (z = 8 ∨ (b0 && allN z f) = false) → (b0 && allN z f) = isW t n w p e := fun z hz hor => by
      rcases hor with q | q
      · rw [q]; exact heq
      · rw [q, ← heq]
        cases h9 : (b0 && allN 8 f) with
        | false => rfl
        | true =>
          rw [Bool.and_eq_true] at h9
          have h10 : allN z f = true := allN_t.mpr (fun i hi => (allN_t.mp h9.2) i (by omega))
          rw [h9.1, h10] at q
          exact q.symm
    have loop : ∀ (z i : Nat), i + z = 8 → Sat none MX9_isWord d 117 Q 31 [some (vr 29 0), some (vl (wL w)), none, some (vi (bi (b0 && allN i f))), some (vi (nI i)), none] [] (S0 I J) := by
      intro z
      induction z with
      | zero =>
        intro i hi
        have ei : i = 8 := by omega
        subst ei
        refine Sat.of k_X9_isWord [31] 60 ?_
        refine ⟨fun _ => ⟨rfl, bi_01 _, ?_⟩, fun c => absurd (nI_le (a := 8) (b := 8) (by omega) (by omega)) c⟩
        rw [← hQ]
        refine ⟨rfl, ?_⟩
        simp only [wdR]
        rw [fin 8 (by omega) (Or.inl rfl)]
      | succ z ih =>
        intro i hi
        have hdt := due_t w hw i (by omega)
        obtain ⟨d1, d2, d3, d4⟩ := due_x w hw i (by omega)
        refine Sat.of k_X9_isWord [31, 56] 60 ?_
        refine ⟨fun c => absurd ((nI_leI (a := 8) (by omega) (by omega)).mp c) (by omega), fun _ => ⟨fun c => ⟨rfl, bi_01 _, ?_⟩, fun c => ?_⟩⟩
        · have c := bi_f c
          rw [← hQ]
          refine ⟨rfl, ?_⟩
          simp only [wdR]
          rw [fin i (by omega) (Or.inr c)]
        · have c := bi_t c
          have s88 : ∀ (b : Bool) (u : Int32), b = f i → Sat none MX9_isWord d 117 Q 88 [some (vr 29 0), some (vl (wL w)), none, some (vi (bi (b0 && allN i f))), some (vi (nI i)), some (vi u)] [vi (bi b)] (S0 I J) := fun b u hb => by
            refine Sat.of k_X9_isWord [31] 60 ?_
            refine (ih (i + 1) (by omega)).lw ⟨rfl, rfl, ?_, by rw [← nI_1 i], trivial⟩ rfl
            simp only [allN]
            rw [← Bool.and_assoc, c, Bool.true_and, hb]
          have s80 : ∀ v, v = exN w i → Sat none MX9_isWord d 117 Q 80 [some (vr 29 0), some (vl (wL w)), none, some (vi (bi (b0 && allN i f))), some (vi (nI i)), some (vi (nI (dueN w i)))] [vi (nI v), vi (nI (ltN t p e i))] (S0 I J) := fun v hv => by
            have := hlt i
            refine Sat.of k_X9_isWord [88] 60 ?_
            refine ⟨fun c1 => s88 false _ ?_, fun c1 => s88 true _ ?_⟩
            · have c1 : ¬ nI (ltN t p e i) = nI v := c1
              rw [← hf]
              exact (decide_eq_false (fun q => c1 (by rw [q, hv]))).symm
            · have c1 : nI (ltN t p e i) = nI v := c1
              rw [nI_eq (by omega) (by omega)] at c1
              rw [← hf]
              exact (decide_eq_true (by rw [c1, hv])).symm
          have s56 : Sat none MX9_isWord d 117 Q 56 [some (vr 29 0), some (vl (wL w)), none, some (vi (bi (b0 && allN i f))), some (vi (nI i)), none] [vi (nI (dueN w i))] (S0 I J) := by
            refine Sat.of k_X9_isWord [80] 60 ?_
            refine ⟨0, 117, hd, Nat.le_refl _, (m_letterAt I J n p e i t rr h hX (by omega) 0).mono ?_⟩
            rintro r σ ⟨rfl, rfl⟩
            refine ⟨fun c1 => ?_, fun c1 => ?_⟩
            · have c1 : ¬ nI (dueN w i) = nI 0 := c1
              show Sat none MX9_isWord d 117 Q 80 _ [vi ((97 : Int32) + nI (dueN w i) - 1), vi (nI (ltN t p e i))] (S0 I J)
              rw [d2 (fun q => c1 (by rw [q]))]
              exact s80 _ rfl
            · have c1 : nI (dueN w i) = nI 0 := c1
              rw [nI_eq (by omega) (by decide)] at c1
              exact s80 0 (d1 c1).symm
          show Sat none MX9_isWord d 117 Q 56 _ [vi (((wL w >>> (((5 : Int32) * (7 - nI i)).toInt64 &&& 63)) &&& 31).toInt32)] (S0 I J)
          rw [hdt]
          exact s56
    have s27 : ∀ b : Bool, b = b0 → Sat none MX9_isWord d 117 Q 27 [some (vr 29 0), some (vl (wL w)), none, none, none, none] [vi (bi b)] (S0 I J) := fun b hb => by
      subst hb
      refine Sat.of k_X9_isWord [31] 60 ?_
      refine (loop 8 0 (by omega)).to ?_ rfl
      simp only [allN, Bool.and_true]
      rfl
    have ea : (I 29 0 28).toNatClampNeg = a := by rw [e1, nI_clamp (by omega)]
    have h6 : I 49 0 a = nI (e - p) := h5.2.1
    refine Sat.of k_X9_isWord [27] 60 ?_
    refine ⟨0, 117, hd, Nat.le_refl _, (m_isKind I J n 2 t ((p, e) :: rr) h (by decide) 0).mono ?_⟩
    rintro r σ ⟨rfl, rfl⟩
    refine ⟨fun c => s27 false ?_, fun c => ⟨?_, fun c1 => s27 false ?_, fun c1 => s27 true ?_⟩⟩
    · have c : decide (mkd t n p e = 2) = false := bi_f c
      rw [← hb0, c]
      rfl
    · show vp_in (I 29 0 28) 160
      rw [e1]
      exact vp_in_nI (by omega) (by decide)
    · have c1 : nI 9 ≤ I 49 0 (I 29 0 28).toNatClampNeg := c1
      rw [ea, h6, nI_leI (by decide) (by omega)] at c1
      rw [← hb0, decide_eq_false (show ¬ e - p < 9 by omega), Bool.and_false]
    · have c : decide (mkd t n p e = 2) = true := bi_t c
      have c1 : ¬ nI 9 ≤ I 49 0 (I 29 0 28).toNatClampNeg := c1
      rw [ea, h6, nI_leI (by decide) (by omega)] at c1
      rw [← hb0, c, decide_eq_true (show e - p < 9 by omega)]
      rfl
