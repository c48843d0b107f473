/-! Findings: what is wrong, what is unseen -/
/-- gone, and staying, of the first k -/
def goS (ev : Nat) (L : List Ob) : Nat → Nat × Nat
  | 0 => (0, 0)
  | k + 1 => if 0 < (hst ev L ((goS ev L k).1 ||| 2 ^ k)).length then ((goS ev L k).1, (goS ev L k).2 ||| 2 ^ k) else ((goS ev L k).1 ||| 2 ^ k, (goS ev L k).2)
def blm (ev : Nat) (L : List Ob) : Nat → Nat
  | 0 => 0
  | k + 1 => if 0 < (hst ev L (2 ^ k)).length then blm ev L k ||| 2 ^ k else blm ev L k
def soIn (S : List Ob) (l : HS) : Bool := allN S.length (fun j => decide (relH l (nthD S j (0, 0, 0)).1 (nthD S j (0, 0, 0)).2.2 = (nthD S j (0, 0, 0)).2.1))
def susp (ev : Nat) (L S : List Ob) (k : Nat) : Bool := decide (S.length = 0) || (decide (0 < (hst ev L (2 ^ k)).length) && soIn S (nthD (hst ev L (2 ^ k)) 0 h00))
def sus (ev : Nat) (L S : List Ob) : Nat → Nat
  | 0 => 0
  | k + 1 => if susp ev L S k then sus ev L S k ||| 2 ^ k else sus ev L S k
theorem goS_lt {ev : Nat} {L : List Ob} : ∀ {k : Nat}, (goS ev L k).1 < 2 ^ k
  | 0 => by simp [goS]
  | k + 1 => by
    have h := goS_lt (ev := ev) (L := L) (k := k)
    have h2 : 2 ^ k < 2 ^ (k + 1) := Nat.pow_lt_pow_right (by decide) (by omega)
    simp only [goS]
    split
    · exact Nat.lt_trans h h2
    · exact Nat.or_lt_two_pow (Nat.lt_trans h h2) h2
def WFs (ev : Nat) (S : List Ob) : Prop := ∀ j, j < S.length → (nthD S j (0, 0, 0)).1 < ev ∧ (nthD S j (0, 0, 0)).2.2 < ev ∧ (nthD S j (0, 0, 0)).1 ≠ (nthD S j (0, 0, 0)).2.2 ∧ (nthD S j (0, 0, 0)).2.1 < 13
theorem p2_8 {k : Nat} (h : k < 9) : 2 ^ k < 2 ^ 31 := Nat.pow_lt_pow_right (by decide) (by omega)
set_option maxRecDepth 10000 in
theorem c_quarrel (I : SI) (J : SJ) (ev : Nat) (L : List Ob) (h : FI I J ev L) (d : Nat) (hd : 20 < d) : Tri d YX2_quarrel 117 [vr 7 0] (S0 I J) (fun r σ => r = some (vi (nI (if 0 < (hst ev L 0).length then 0 else (goS ev L L.length).2))) ∧ ∃ I1 J1, σ = S0 I1 J1 ∧ FI I1 J1 ev L ∧ frF I I1 ∧ KR I I1) := by
  refine Tri.of (M := MX2_quarrel) k_X2_quarrel ⟨Nat.le_refl _, Nat.le_refl _⟩ (Nat.le_of_ble_eq_true rfl) ?_
  have hL8 := h.2.1.2.2.1
  have loop : ∀ (n k : Nat) (I1 : SI) (J1 : SJ), k + n = L.length → ¬ 0 < (hst ev L 0).length → FI I1 J1 ev L → frF I I1 → KR I I1 → Sat none MX2_quarrel d 117 (fun r σ => r = some (vi (nI (if 0 < (hst ev L 0).length then 0 else (goS ev L L.length).2))) ∧ ∃ I1 J1, σ = S0 I1 J1 ∧ FI I1 J1 ev L ∧ frF I I1 ∧ KR I I1) 16 [some (vr 7 0), some (vi (nI (goS ev L k).1)), some (vi (nI (goS ev L k).2)), some (vi (nI k))] [] (S0 I1 J1) := by
    intro n
    induction n with
    | zero =>
      intro k I1 J1 hk h0 f1 f2 f3
      have e : k = L.length := by omega
      subst e
      refine Sat.of k_X2_quarrel [16] 60 ?_
      refine ⟨fun c => ⟨rfl, trivial, by rw [if_neg h0], I1, J1, rfl, f1, f2, f3⟩, fun c => ?_⟩
      have c : ¬ I1 3 1 3 ≤ nI L.length := c
      rw [f1.2.1.2.1] at c
      exact absurd (nI_le (a := L.length) (b := L.length) (Nat.le_refl _) (by omega)) c
    | succ n ih =>
      intro k I1 J1 hk h0 f1 f2 f3
      have hl : (goS ev L k).1 ||| 2 ^ k < 2 ^ 31 := by
        have h1 := goS_lt (ev := ev) (L := L) (k := k)
        have h2 := p2_8 (k := k) (by omega)
        exact Nat.or_lt_two_pow (Nat.lt_trans h1 h2) h2
      have es : (1 : Int32) <<< (nI k &&& 31) = nI (2 ^ k) := nx_shl (by omega)
      refine Sat.of k_X2_quarrel [16] 60 ?_
      refine ⟨fun c => ?_, fun c => ⟨20, 117, hd, Nat.le_refl _, (c_hasHistoryWithout I1 J1 ev ((goS ev L k).1 ||| 2 ^ k) L f1 hl 20 (by decide)).to ?_ rfl ?_⟩⟩
      · have c : I1 3 1 3 ≤ nI k := c
        rw [f1.2.1.2.1, nI_leI (by omega) (by omega)] at c
        omega
      · show [vr 7 0, vi (nI (goS ev L k).1 ||| (1 : Int32) <<< (nI k &&& 31))] = _
        rw [es, nx_or]
      · rintro r σ ⟨rfl, I2, J2, rfl, q1, q2, q3, q4⟩
        refine ⟨fun c1 => ?_, fun c1 => ?_⟩
        · have c1 := of_decide_eq_false (bi_f c1)
          refine (ih (k + 1) I2 J2 (by omega) h0 q1 (f2.tr q3.F) (f3.tr q3.K)).to ?_ rfl
          simp only [goS]
          rw [if_neg c1, ← nI_1, ← nx_or, ← es]
          rfl
        · have c1 := of_decide_eq_true (bi_t c1)
          refine (ih (k + 1) I2 J2 (by omega) h0 q1 (f2.tr q3.F) (f3.tr q3.K)).to ?_ rfl
          simp only [goS]
          rw [if_pos c1, ← nI_1, ← nx_or, ← es]
          rfl
  refine Sat.of k_X2_quarrel [16] 60 ?_
  refine ⟨20, 117, hd, Nat.le_refl _, (c_findHistories I J ev 1 L h (by decide) (by decide) 20 (by decide)).mono ?_⟩
  rintro r σ ⟨rfl, I1, J1, rfl, q1, q2, q3, q4, q5⟩
  refine ⟨fun c => loop L.length 0 I1 J1 (by omega) ?_ q1 q4 q5, fun c => ⟨rfl, trivial, ?_, I1, J1, rfl, q1, q4, q5⟩⟩
  · have c : nI (min (hst ev L 0).length 1) ≤ nI 0 := c
    rw [nI_leI (by omega) (by decide)] at c
    omega
  · have c : ¬ nI (min (hst ev L 0).length 1) ≤ nI 0 := c
    rw [nI_leI (by omega) (by decide)] at c
    rw [if_pos (by omega)]
    rfl
set_option maxRecDepth 10000 in
theorem c_blame (I : SI) (J : SJ) (ev : Nat) (L : List Ob) (h : FI I J ev L) (d : Nat) (hd : 20 < d) : Tri d YX2_blame 117 [vr 7 0] (S0 I J) (fun r σ => r = some (vi (nI (if 0 < (hst ev L 0).length then 0 else blm ev L L.length))) ∧ ∃ I1 J1, σ = S0 I1 J1 ∧ FI I1 J1 ev L ∧ frF I I1 ∧ KR I I1) := by
  refine Tri.of (M := MX2_blame) k_X2_blame ⟨Nat.le_refl _, Nat.le_refl _⟩ (Nat.le_of_ble_eq_true rfl) ?_
  have hL8 := h.2.1.2.2.1
  have loop : ∀ (n k : Nat) (I1 : SI) (J1 : SJ), k + n = L.length → ¬ 0 < (hst ev L 0).length → FI I1 J1 ev L → frF I I1 → KR I I1 → Sat none MX2_blame d 117 (fun r σ => r = some (vi (nI (if 0 < (hst ev L 0).length then 0 else blm ev L L.length))) ∧ ∃ I1 J1, σ = S0 I1 J1 ∧ FI I1 J1 ev L ∧ frF I I1 ∧ KR I I1) 14 [some (vr 7 0), some (vi (nI (blm ev L k))), some (vi (nI k))] [] (S0 I1 J1) := by
    intro n
    induction n with
    | zero =>
      intro k I1 J1 hk h0 f1 f2 f3
      have e : k = L.length := by omega
      subst e
      refine Sat.of k_X2_blame [14] 60 ?_
      refine ⟨fun c => ⟨rfl, trivial, by rw [if_neg h0], I1, J1, rfl, f1, f2, f3⟩, fun c => ?_⟩
      have c : ¬ I1 3 1 3 ≤ nI L.length := c
      rw [f1.2.1.2.1] at c
      exact absurd (nI_le (a := L.length) (b := L.length) (Nat.le_refl _) (by omega)) c
    | succ n ih =>
      intro k I1 J1 hk h0 f1 f2 f3
      have es : (1 : Int32) <<< (nI k &&& 31) = nI (2 ^ k) := nx_shl (by omega)
      refine Sat.of k_X2_blame [14] 60 ?_
      refine ⟨fun c => ?_, fun c => ⟨20, 117, hd, Nat.le_refl _, (c_hasHistoryWithout I1 J1 ev (2 ^ k) L f1 (p2_8 (by omega)) 20 (by decide)).to ?_ rfl ?_⟩⟩
      · have c : I1 3 1 3 ≤ nI k := c
        rw [f1.2.1.2.1, nI_leI (by omega) (by omega)] at c
        omega
      · show [vr 7 0, vi ((1 : Int32) <<< (nI k &&& 31))] = _
        rw [es]
      · rintro r σ ⟨rfl, I2, J2, rfl, q1, q2, q3, q4⟩
        refine ⟨fun c1 => ?_, fun c1 => ?_⟩
        · have c1 := of_decide_eq_false (bi_f c1)
          refine (ih (k + 1) I2 J2 (by omega) h0 q1 (f2.tr q3.F) (f3.tr q3.K)).to ?_ rfl
          simp only [blm]
          rw [if_neg c1, ← nI_1]
          rfl
        · have c1 := of_decide_eq_true (bi_t c1)
          refine (ih (k + 1) I2 J2 (by omega) h0 q1 (f2.tr q3.F) (f3.tr q3.K)).to ?_ rfl
          simp only [blm]
          rw [if_pos c1, ← nI_1, ← nx_or, ← es]
          rfl
  refine Sat.of k_X2_blame [14] 60 ?_
  refine ⟨20, 117, hd, Nat.le_refl _, (c_findHistories I J ev 1 L h (by decide) (by decide) 20 (by decide)).mono ?_⟩
  rintro r σ ⟨rfl, I1, J1, rfl, q1, q2, q3, q4, q5⟩
  refine ⟨fun c => loop L.length 0 I1 J1 (by omega) ?_ q1 q4 q5, fun c => ⟨rfl, trivial, ?_, I1, J1, rfl, q1, q4, q5⟩⟩
  · have c : nI (min (hst ev L 0).length 1) ≤ nI 0 := c
    rw [nI_leI (by omega) (by decide)] at c
    omega
  · have c : ¬ nI (min (hst ev L 0).length 1) ≤ nI 0 := c
    rw [nI_leI (by omega) (by decide)] at c
    rw [if_pos (by omega)]
    rfl
set_option maxRecDepth 10000 in
theorem c_isSoIn (I : SI) (J : SJ) (m ev : Nat) (S : List Ob) (H : List HS) (hS : SNP I S) (hw : WFs ev S) (h5 : ev ≤ 5) (h : LST I J m ev H) (h0 : 0 < H.length) (d : Nat) (hd : 1 < d) : Tri d YX7_isSoIn 117 [vr 21 0, vr 8 m] (S0 I J) (fun r σ => σ = S0 I J ∧ r = some (vi (bi (soIn S (nthD H 0 h00))))) := by
  refine Tri.of (M := MX7_isSoIn) k_X7_isSoIn ⟨Nat.le_refl _, Nat.le_refl _⟩ (Nat.le_of_ble_eq_true rfl) ?_
  obtain ⟨s1, s2, s3⟩ := hS
  have loop : ∀ (n j : Nat), j + n = S.length → allN j (fun j => decide (relH (nthD H 0 h00) (nthD S j (0, 0, 0)).1 (nthD S j (0, 0, 0)).2.2 = (nthD S j (0, 0, 0)).2.1)) = true → Sat none MX7_isSoIn d 117 (fun r σ => σ = S0 I J ∧ r = some (vi (bi (soIn S (nthD H 0 h00))))) 2 [some (vr 21 0), some (vr 8 m), some (vi (nI j))] [] (S0 I J) := by
    intro n
    induction n with
    | zero =>
      intro j hj ha
      have e : j = S.length := by omega
      subst e
      refine Sat.of k_X7_isSoIn [2] 60 ?_
      refine ⟨fun c => ⟨rfl, Or.inr rfl, rfl, ?_⟩, fun c => ?_⟩
      · unfold soIn
        rw [ha]
        rfl
      · have c : ¬ I 21 0 3 ≤ nI S.length := c
        rw [s1] at c
        exact absurd (nI_le (a := S.length) (b := S.length) (Nat.le_refl _) (by omega)) c
    | succ n ih =>
      intro j hj ha
      obtain ⟨x1, x2, x3⟩ := s3 j (by omega)
      obtain ⟨w1, w2, w3, w4⟩ := hw j (by omega)
      have ej : (nI j).toNatClampNeg = j := nI_clamp (by omega)
      have hr13 : relH (nthD H 0 h00) (nthD S j (0, 0, 0)).1 (nthD S j (0, 0, 0)).2.2 < 13 := relH_lt (fun q => (h.2.2.1 0 h0).2 _ (pr0_lt ev (by omega) _ w2 _ q))
      refine Sat.of k_X7_isSoIn [2] 60 ?_
      refine ⟨fun c => ?_, fun c => ⟨vp_in_nI (by omega) (by decide), vp_in_nI (by omega) (by decide), 1, 117, hd, Nat.le_refl _, (c_relation I J m ev 0 (nthD S j (0, 0, 0)).1 (nthD S j (0, 0, 0)).2.2 H h h5 h0 w1 w2 w3 1 (by decide)).to ?_ rfl ?_⟩⟩
      · have c : I 21 0 3 ≤ nI j := c
        rw [s1, nI_leI (by omega) (by omega)] at c
        omega
      · show [vr 8 m, vi 0, vi (I 22 0 (nI j).toNatClampNeg), vi (I 24 0 (nI j).toNatClampNeg)] = _
        rw [ej, x1, x3]
        rfl
      · rintro r σ ⟨rfl, rfl⟩
        refine ⟨vp_in_nI (by omega) (by decide), fun c1 => ?_, fun c1 => ⟨rfl, Or.inl rfl, rfl, ?_⟩⟩
        · have c1 : nI (relH (nthD H 0 h00) (nthD S j (0, 0, 0)).1 (nthD S j (0, 0, 0)).2.2) = I 23 0 (nI j).toNatClampNeg := c1
          rw [ej, x2] at c1
          have he := (nI_eq (by omega) (by omega)).mp c1
          refine (ih (j + 1) (by omega) ?_).to (by rw [← nI_1]; rfl) rfl
          simp only [allN, ha, Bool.true_and]
          exact decide_eq_true he
        · have c1 : ¬ nI (relH (nthD H 0 h00) (nthD S j (0, 0, 0)).1 (nthD S j (0, 0, 0)).2.2) = I 23 0 (nI j).toNatClampNeg := c1
          rw [ej, x2] at c1
          have : soIn S (nthD H 0 h00) = false := by
            rw [← Bool.not_eq_true]
            unfold soIn
            rw [allN_t]
            intro q
            have := of_decide_eq_true (q j (by omega))
            exact c1 (by rw [this])
          rw [this]
          rfl
  refine Sat.of k_X7_isSoIn [2] 60 ?_
  exact loop S.length 0 (by omega) rfl
set_option maxRecDepth 10000 in
theorem c_suspects (I : SI) (J : SJ) (ev : Nat) (L S : List Ob) (h : FI I J ev L) (hS : SNP I S) (hw : WFs ev S) (d : Nat) (hd : 20 < d) : Tri d YX2_suspects 117 [vr 7 0, vr 21 0] (S0 I J) (fun r σ => r = some (vi (nI (sus ev L S L.length))) ∧ ∃ I1 J1, σ = S0 I1 J1 ∧ FI I1 J1 ev L ∧ frF I I1 ∧ KR I I1) := by
  refine Tri.of (M := MX2_suspects) k_X2_suspects ⟨Nat.le_refl _, Nat.le_refl _⟩ (Nat.le_of_ble_eq_true rfl) ?_
  have hL8 := h.2.1.2.2.1
  have h5 := h.2.1.2.2.2.2.1
  have loop : ∀ (n k : Nat) (I1 : SI) (J1 : SJ), k + n = L.length → FI I1 J1 ev L → frF I I1 → KR I I1 → Sat none MX2_suspects d 117 (fun r σ => r = some (vi (nI (sus ev L S L.length))) ∧ ∃ I1 J1, σ = S0 I1 J1 ∧ FI I1 J1 ev L ∧ frF I I1 ∧ KR I I1) 4 [some (vr 7 0), some (vr 21 0), some (vi (nI (sus ev L S k))), some (vi (nI k))] [] (S0 I1 J1) := by
    intro n
    induction n with
    | zero =>
      intro k I1 J1 hk f1 f2 f3
      have e : k = L.length := by omega
      subst e
      refine Sat.of k_X2_suspects [4] 60 ?_
      refine ⟨fun c => ⟨rfl, trivial, rfl, I1, J1, rfl, f1, f2, f3⟩, fun c => ?_⟩
      have c : ¬ I1 3 1 3 ≤ nI L.length := c
      rw [f1.2.1.2.1] at c
      exact absurd (nI_le (a := L.length) (b := L.length) (Nat.le_refl _) (by omega)) c
    | succ n ih =>
      intro k I1 J1 hk f1 f2 f3
      have es : (1 : Int32) <<< (nI k &&& 31) = nI (2 ^ k) := nx_shl (by omega)
      have hS1 : SNP I1 S := by
        unfold SNP at hS ⊢
        rw [f2 21 0 (by omega), f2 22 0 (by omega), f2 23 0 (by omega), f2 24 0 (by omega)]
        exact hS
      refine Sat.of k_X2_suspects [4] 60 ?_
      refine ⟨fun c => ?_, fun c => ⟨fun c1 => ?_, fun c1 => ⟨20, 117, hd, Nat.le_refl _, (c_hasHistoryWithout I1 J1 ev (2 ^ k) L f1 (p2_8 (by omega)) 20 (by decide)).to ?_ rfl ?_⟩⟩⟩
      · have c : I1 3 1 3 ≤ nI k := c
        rw [f1.2.1.2.1, nI_leI (by omega) (by omega)] at c
        omega
      · have c1 : I1 21 0 3 = 0 := c1
        rw [hS1.1] at c1
        have e0 : S.length = 0 := (nI_eq (b := 0) (by have := hS1.2.1; omega) (by decide)).mp c1
        refine (ih (k + 1) I1 J1 (by omega) f1 f2 f3).to ?_ rfl
        have e1 : susp ev L S k = true := by
          unfold susp
          rw [decide_eq_true e0, Bool.true_or]
        simp only [sus]
        rw [if_pos e1, ← nI_1, ← nx_or, ← es]
        rfl
      · show [vr 7 0, vi ((1 : Int32) <<< (nI k &&& 31))] = _
        rw [es]
      · have c1 : ¬ I1 21 0 3 = 0 := c1
        rw [hS1.1] at c1
        have e0 : S.length ≠ 0 := fun e => c1 (by rw [e]; rfl)
        rintro r σ ⟨rfl, I2, J2, rfl, q1, q2, q3, q4⟩
        refine ⟨fun c2 => ?_, fun c2 => ?_⟩
        · have c2 := bi_f c2
          refine (ih (k + 1) I2 J2 (by omega) q1 (f2.tr q3.F) (f3.tr q3.K)).to ?_ rfl
          have e1 : susp ev L S k = false := by
            unfold susp
            rw [decide_eq_false e0, c2]
            rfl
          simp only [sus]
          rw [if_neg (by rw [e1]; decide), ← nI_1]
          rfl
        · have c2 := bi_t c2
          have c2' := of_decide_eq_true c2
          have hl1 : 0 < ((hst ev L (2 ^ k)).take 1).length := by rw [List.length_take]; omega
          have hd0 : nthD ((hst ev L (2 ^ k)).take 1) 0 h00 = nthD (hst ev L (2 ^ k)) 0 h00 := by
            cases hst ev L (2 ^ k) with
            | nil => rfl
            | cons a t => rfl
          have hS2 : SNP I2 S := by
            unfold SNP at hS1 ⊢
            rw [q3.F 21 0 (by omega), q3.F 22 0 (by omega), q3.F 23 0 (by omega), q3.F 24 0 (by omega)]
            exact hS1
          refine ⟨2, 117, by omega, Nat.le_refl _, (c_isSoIn I2 J2 1 ev S ((hst ev L (2 ^ k)).take 1) hS2 hw h5 q2 hl1 2 (by decide)).mono ?_⟩
          rintro r σ ⟨rfl, rfl⟩
          rw [hd0]
          refine ⟨fun c3 => ?_, fun c3 => ?_⟩
          · have c3 := bi_f c3
            refine (ih (k + 1) I2 J2 (by omega) q1 (f2.tr q3.F) (f3.tr q3.K)).to ?_ rfl
            have e1 : susp ev L S k = false := by
              unfold susp
              rw [decide_eq_false e0, c3, Bool.and_false]
              rfl
            simp only [sus]
            rw [if_neg (by rw [e1]; decide), ← nI_1]
            rfl
          · have c3 := bi_t c3
            refine (ih (k + 1) I2 J2 (by omega) q1 (f2.tr q3.F) (f3.tr q3.K)).to ?_ rfl
            have e1 : susp ev L S k = true := by
              unfold susp
              rw [c2, c3]
              simp
            simp only [sus]
            rw [if_pos e1, ← nI_1, ← nx_or, ← es]
            rfl
  refine Sat.of k_X2_suspects [4] 60 ?_
  exact loop L.length 0 I J (by omega) h frF.rf KR.rf
