/-! The model: rows of letters and figures -/
def mv (t : Nat → Nat) (p : Nat) : Nat → Nat
  | 0 => 0
  | i + 1 => if mv t p i < 10000 then 10 * mv t p i + t (p + i) - 48 else mv t p i
theorem mv_lt {t : Nat → Nat} {p : Nat} : ∀ {m : Nat}, (∀ i, i < m → 48 ≤ t (p + i) ∧ t (p + i) ≤ 57) → mv t p m < 100000
  | 0, _ => by simp [mv]
  | m + 1, h => by
    have := mv_lt (t := t) (p := p) (m := m) (fun i hi => h i (by omega))
    have := h m (by omega)
    simp only [mv]
    split <;> omega
theorem vl_ill {t : Nat → Nat} {p : Nat} (h0 : t p = 48) : ∀ {m : Nat}, (∀ i, i < m + 2 → 48 ≤ t (p + i)) → vlN t p (m + 2) = 10000
  | 0, _ => by
    simp only [vlN, Nat.add_zero, h0]
    simp
  | m + 1, h => by
    have h1 := vl_ill h0 (m := m) (fun i hi => h i (by omega))
    have h2 := h (m + 2) (by omega)
    rw [vlN, if_neg (fun q => by rw [h1] at q; omega), h1]
    exact Nat.min_eq_right (by omega)
theorem vl_mv {t : Nat → Nat} {p : Nat} (h0 : t p ≠ 48) : ∀ {m : Nat}, (∀ i, i < m + 1 → 48 ≤ t (p + i) ∧ t (p + i) ≤ 57) → vlN t p (m + 1) = min (mv t p (m + 1)) 10000 ∧ 1 ≤ mv t p (m + 1)
  | 0, h => by
    have := h 0 (by omega)
    rw [Nat.add_zero] at this
    have e1 : vlN t p (0 + 1) = min (0 * 10 + t p - 48) 10000 := rfl
    have e2 : mv t p (0 + 1) = 10 * 0 + t p - 48 := rfl
    rw [e1, e2]
    omega
  | m + 1, h => by
    obtain ⟨h1, h2⟩ := vl_mv h0 (m := m) (fun i hi => h i (by omega))
    have h3 := h (m + 1) (by omega)
    have e1 : vlN t p (m + 1 + 1) = (if vlN t p (m + 1) = 0 ∧ 0 < m + 1 then 10000 else min (vlN t p (m + 1) * 10 + t (p + (m + 1)) - 48) 10000) := rfl
    have e2 : mv t p (m + 1 + 1) = (if mv t p (m + 1) < 10000 then 10 * mv t p (m + 1) + t (p + (m + 1)) - 48 else mv t p (m + 1)) := rfl
    rw [e1, e2, if_neg (by omega)]
    by_cases q : mv t p (m + 1) < 10000
    · rw [if_pos q]
      omega
    · rw [if_neg q]
      omega
/-- the model's kind of a number -/
theorem num_kind {t : Nat → Nat} {p e : Nat} (hpe : p < e) (h : ∀ i, p ≤ i → i < e → 48 ≤ t i ∧ t i ≤ 57) : ((9999 < mv t p (e - p) ∨ (t p = 48 ∧ p + 1 < e)) ↔ ¬ vlN t p (e - p) ≤ 9999) ∧ (vlN t p (e - p) ≤ 9999 → mv t p (e - p) = vlN t p (e - p)) := by
  have hd : ∀ m, m ≤ e - p → ∀ i, i < m → 48 ≤ t (p + i) ∧ t (p + i) ≤ 57 := fun m hm i hi => h (p + i) (by omega) (by omega)
  obtain ⟨m, hm⟩ : ∃ m, e - p = m + 1 := ⟨e - p - 1, by omega⟩
  by_cases h0 : t p = 48
  · cases m with
    | zero =>
      rw [hm]
      simp only [vlN, mv, Nat.add_zero, h0]
      simp
      omega
    | succ m =>
      have := vl_ill h0 (m := m) (fun i hi => (hd (m + 2) (by omega) i hi).1)
      rw [hm, this]
      refine ⟨⟨fun _ => by omega, fun _ => Or.inr ⟨h0, by omega⟩⟩, fun q => by omega⟩
  · obtain ⟨h1, h2⟩ := vl_mv h0 (m := m) (hd (m + 1) (by omega))
    rw [hm, h1]
    refine ⟨⟨fun q => ?_, fun q => ?_⟩, fun q => ?_⟩
    · rcases q with q | q
      · omega
      · exact absurd q.1 h0
    · exact Or.inl (by omega)
    · omega
set_option maxRecDepth 10000 in
theorem m_row (I : SI) (J : SJ) (n k a b : Nat) (t : Nat → Nat) (P : Nat → Bool) (hX : MTX I n t) (hk : k ≤ n) (hP : ∀ i, i < n → inB (nI (t i)) (nI a) (nI b) = P i) (d : Nat) (hd : 0 < d) : Tri d YX9_row 117 [vr 29 0, vi (nI k), vi (nI a), vi (nI b)] (S0 I J) (fun r σ => σ = S0 I J ∧ r = some (vi (nI (pst P n k)))) := by
  refine Tri.of (M := MX9_row) k_X9_row ⟨Nat.le_refl _, Nat.le_refl _⟩ (Nat.le_of_ble_eq_true rfl) ?_
  obtain ⟨x1, x2, x3⟩ := hX
  have loop : ∀ (m e : Nat), e + m = n → pst P n e = pst P n k → Sat none MX9_row d 117 (fun r σ => σ = S0 I J ∧ r = some (vi (nI (pst P n k)))) 3 [some (vr 29 0), some (vi (nI k)), some (vi (nI a)), some (vi (nI b)), some (vi (nI e))] [] (S0 I J) := by
    intro m
    induction m with
    | zero =>
      intro e he hp
      have e1 : e = n := by omega
      rw [pst_end (by omega)] at hp
      refine Sat.of k_X9_row [3] 60 ?_
      refine ⟨fun _ => ⟨rfl, trivial, rfl, by rw [← hp]⟩, fun c => ?_⟩
      have c : ¬ I 29 0 22 ≤ nI e := c
      rw [x1] at c
      exact absurd (nI_le (by omega) (by omega)) c
    | succ m ih =>
      intro e he hp
      have ee : (nI e).toNatClampNeg = e := nI_clamp (by omega)
      refine Sat.of k_X9_row [3] 60 ?_
      refine ⟨fun c => ?_, fun _ => ⟨vp_in_nI (by omega) (by decide), 0, 117, hd, Nat.le_refl _, (m_in I J (nI (t e)) (nI a) (nI b) 0).to ?_ rfl ?_⟩⟩
      · have c : I 29 0 22 ≤ nI e := c
        rw [x1, nI_leI (by omega) (by omega)] at c
        omega
      · show [vi (I 46 0 (nI e).toNatClampNeg), vi (nI a), vi (nI b)] = _
        rw [ee, (x3 e (by omega)).1]
      · rintro r σ ⟨rfl, rfl⟩
        rw [hP e (by omega)]
        refine ⟨fun c => ⟨rfl, trivial, rfl, ?_⟩, fun c => (ih (e + 1) (by omega) ?_).to (by rw [← nI_1]; rfl) rfl⟩
        · rw [← hp, pst_no (bi_f c)]
        · rw [← hp, pst_go (by omega) (bi_t c)]
  refine Sat.of k_X9_row [3] 60 ?_
  exact (loop (n - k) k (by omega) rfl).to rfl rfl
theorem in_ab {c a b : Nat} (hc : c ≤ 255) (ha : a < 2 ^ 31) (hb : b < 2 ^ 31) : inB (nI c) (nI a) (nI b) = decide (a ≤ c ∧ c ≤ b) := by
  unfold inB
  congr 1
  rw [nI_leI ha (by omega), nI_leI (by omega) hb]
theorem kd1 {c : Nat} : kdC c = 1 ↔ 97 ≤ c ∧ c ≤ 122 := by
  unfold kdC
  split
  · rename_i q
    exact ⟨fun _ => q, fun _ => rfl⟩
  · rename_i q
    refine ⟨fun z => ?_, fun z => absurd z q⟩
    split at z
    · cases z
    · split at z <;> cases z
theorem kd2 {c : Nat} : kdC c = 2 ↔ 48 ≤ c ∧ c ≤ 57 := by
  unfold kdC
  split
  · rename_i q
    refine ⟨fun z => (by cases z), fun z => by omega⟩
  · split
    · rename_i q
      exact ⟨fun _ => q, fun _ => rfl⟩
    · rename_i q
      refine ⟨fun z => ?_, fun z => absurd z q⟩
      split at z <;> cases z
theorem kd3 {c : Nat} : kdC c = 3 ↔ c = 59 := by
  unfold kdC
  split
  · exact ⟨fun z => (by cases z), fun z => by omega⟩
  · split
    · exact ⟨fun z => (by cases z), fun z => by omega⟩
    · split
      · rename_i q
        exact ⟨fun _ => q, fun _ => rfl⟩
      · rename_i q
        exact ⟨fun z => (by cases z), fun z => absurd z q⟩
theorem m_rowA (I : SI) (J : SJ) (n k : Nat) (t : Nat → Nat) (hX : MTX I n t) (hk : k ≤ n) (d : Nat) (hd : 0 < d) : Tri d YX9_row 117 [vr 29 0, vi (nI k), vi (nI 97), vi (nI 122)] (S0 I J) (fun r σ => σ = S0 I J ∧ r = some (vi (nI (pst (ruP t 1) n k)))) := by
  refine m_row I J n k 97 122 t (ruP t 1) hX hk (fun i hi => ?_) d hd
  rw [in_ab (hX.2.2 i hi).2 (by decide) (by decide)]
  unfold ruP
  rw [Bool.eq_iff_iff, decide_eq_true_eq, decide_eq_true_eq, kd1]
theorem m_rowN (I : SI) (J : SJ) (n k : Nat) (t : Nat → Nat) (hX : MTX I n t) (hk : k ≤ n) (d : Nat) (hd : 0 < d) : Tri d YX9_row 117 [vr 29 0, vi (nI k), vi (nI 48), vi (nI 57)] (S0 I J) (fun r σ => σ = S0 I J ∧ r = some (vi (nI (pst (ruP t 2) n k)))) := by
  refine m_row I J n k 48 57 t (ruP t 2) hX hk (fun i hi => ?_) d hd
  rw [in_ab (hX.2.2 i hi).2 (by decide) (by decide)]
  unfold ruP
  rw [Bool.eq_iff_iff, decide_eq_true_eq, decide_eq_true_eq, kd2]
