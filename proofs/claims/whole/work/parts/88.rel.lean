/-! How the model's table is made: the helpers -/
def mbO (p : Int32) : Int32 := if 5 ≤ p then (if 9 ≤ p then (if 12 ≤ p then (if 14 ≤ p then 4 else 3) else 2) else 1) else 0
def mfO (p : Int32) : Int32 := if 5 ≤ p then (if 9 ≤ p then (if 12 ≤ p then (if 14 ≤ p then 14 else 12) else 9) else 5) else 0
def meO (p : Int32) : Int32 := mbO p + 1 + p - mfO p
def mlO (p b e : Int32) : Int32 := if b ≤ p then (if p = b then 1 else (if e ≤ p then (if p = e then 3 else 4) else 2)) else 0
def mrO (x y : Int32) : Nat → Int32
  | 0 => -9
  | k + 1 => if mlO (nI (bgT k)) 10 20 = x ∧ mlO (nI (enT k)) 10 20 = y then nI k else mrO x y k
def mrl (p q : Int32) : Int32 := mrO (mlO (mbO p) (mbO q) (meO q)) (mlO (meO p) (mbO q) (meO q)) 13
def rnT : List (List Nat) := [[6, 3, 3, 3, 3, 1, 1, 1, 1, 0, 0, 0, 0, 0, 0], [9, 6, 3, 3, 3, 7, 2, 2, 2, 1, 1, 1, 0, 0, 0], [9, 9, 6, 3, 3, 8, 7, 2, 2, 7, 2, 2, 1, 1, 0], [9, 9, 9, 6, 3, 8, 8, 7, 2, 8, 7, 2, 7, 2, 1], [9, 9, 9, 9, 6, 8, 8, 8, 7, 8, 8, 7, 8, 7, 7], [11, 5, 4, 4, 4, 6, 3, 3, 3, 1, 1, 1, 0, 0, 0], [11, 10, 5, 4, 4, 9, 6, 3, 3, 7, 2, 2, 1, 1, 0], [11, 10, 10, 5, 4, 9, 9, 6, 3, 8, 7, 2, 7, 2, 1], [11, 10, 10, 10, 5, 9, 9, 9, 6, 8, 8, 7, 8, 7, 7], [12, 11, 5, 4, 4, 11, 5, 4, 4, 6, 3, 3, 1, 1, 0], [12, 11, 10, 5, 4, 11, 10, 5, 4, 9, 6, 3, 7, 2, 1], [12, 11, 10, 10, 5, 11, 10, 10, 5, 9, 9, 6, 8, 7, 7], [12, 12, 11, 5, 4, 12, 11, 5, 4, 11, 5, 4, 6, 3, 1], [12, 12, 11, 10, 5, 12, 11, 10, 5, 11, 10, 5, 9, 6, 7], [12, 12, 12, 11, 5, 12, 12, 11, 5, 12, 11, 5, 11, 5, 6]]
def RNm (p q : Nat) : Nat := nthD (nthD rnT p []) q 0
theorem RNm_at : ∀ p, p < 15 → ∀ q, q < 15 → mrl (nI p) (nI q) = nI (RNm p q) ∧ RNm p q < 13 := by decide +kernel
set_option maxRecDepth 10000 in
theorem m_beginOf (I : SI) (J : SJ) (p : Int32) (d : Nat) : Tri d YX9_beginOf 117 [vi p] (S0 I J) (fun r σ => σ = S0 I J ∧ r = some (vi (mbO p))) := by
  refine Tri.of (M := MX9_beginOf) k_X9_beginOf ⟨Nat.le_refl _, Nat.le_refl _⟩ (Nat.le_of_ble_eq_true rfl) ?_
  refine Sat.of k_X9_beginOf [] 60 ?_
  refine ⟨fun c1 => ⟨fun c2 => ⟨fun c3 => ⟨fun c4 => ⟨rfl, trivial, rfl, ?_⟩, fun c4 => ⟨rfl, trivial, rfl, ?_⟩⟩, fun c3 => ⟨rfl, trivial, rfl, ?_⟩⟩, fun c2 => ⟨rfl, trivial, rfl, ?_⟩⟩, fun c1 => ⟨rfl, trivial, rfl, ?_⟩⟩
  · unfold mbO; rw [if_pos c1, if_pos c2, if_pos c3, if_pos c4]
  · unfold mbO; rw [if_pos c1, if_pos c2, if_pos c3, if_neg c4]
  · unfold mbO; rw [if_pos c1, if_pos c2, if_neg c3]
  · unfold mbO; rw [if_pos c1, if_neg c2]
  · unfold mbO; rw [if_neg c1]
set_option maxRecDepth 10000 in
theorem m_endOf (I : SI) (J : SJ) (p : Int32) (d : Nat) (hd : 0 < d) : Tri d YX9_endOf 117 [vi p] (S0 I J) (fun r σ => σ = S0 I J ∧ r = some (vi (meO p))) := by
  refine Tri.of (M := MX9_endOf) k_X9_endOf ⟨Nat.le_refl _, Nat.le_refl _⟩ (Nat.le_of_ble_eq_true rfl) ?_
  have s43 : ∀ f, f = mfO p → Sat none MX9_endOf d 117 (fun r σ => σ = S0 I J ∧ r = some (vi (meO p))) 43 [some (vi p), none] [vi f] (S0 I J) := fun f hf => by
    refine Sat.of k_X9_endOf [] 60 ?_
    refine ⟨0, 117, hd, Nat.le_refl _, (m_beginOf I J p 0).mono ?_⟩
    rintro r σ ⟨rfl, rfl⟩
    refine ⟨rfl, trivial, rfl, ?_⟩
    subst hf
    rfl
  refine Sat.of k_X9_endOf [43] 60 ?_
  refine ⟨fun c1 => ⟨fun c2 => ⟨fun c3 => ⟨fun c4 => s43 _ ?_, fun c4 => s43 _ ?_⟩, fun c3 => s43 _ ?_⟩, fun c2 => s43 _ ?_⟩, fun c1 => s43 _ ?_⟩
  · unfold mfO; rw [if_pos c1, if_pos c2, if_pos c3, if_pos c4]
  · unfold mfO; rw [if_pos c1, if_pos c2, if_pos c3, if_neg c4]
  · unfold mfO; rw [if_pos c1, if_pos c2, if_neg c3]
  · unfold mfO; rw [if_pos c1, if_neg c2]
  · unfold mfO; rw [if_neg c1]
set_option maxRecDepth 10000 in
theorem m_laid (I : SI) (J : SJ) (p b e : Int32) (d : Nat) : Tri d YX9_laid 117 [vi p, vi b, vi e] (S0 I J) (fun r σ => σ = S0 I J ∧ r = some (vi (mlO p b e))) := by
  refine Tri.of (M := MX9_laid) k_X9_laid ⟨Nat.le_refl _, Nat.le_refl _⟩ (Nat.le_of_ble_eq_true rfl) ?_
  refine Sat.of k_X9_laid [] 60 ?_
  refine ⟨fun c1 => ⟨fun c2 => ⟨fun c3 => ⟨fun c4 => ⟨rfl, trivial, rfl, ?_⟩, fun c4 => ⟨rfl, trivial, rfl, ?_⟩⟩, fun c3 => ⟨rfl, trivial, rfl, ?_⟩⟩, fun c2 => ⟨rfl, trivial, rfl, ?_⟩⟩, fun c1 => ⟨rfl, trivial, rfl, ?_⟩⟩
  · unfold mlO; rw [if_pos c1, if_neg c2, if_pos c3, if_neg c4]
  · unfold mlO; rw [if_pos c1, if_neg c2, if_pos c3, if_pos c4]
  · unfold mlO; rw [if_pos c1, if_neg c2, if_neg c3]
  · unfold mlO; rw [if_pos c1, if_pos c2]
  · unfold mlO; rw [if_neg c1]
/-- one more relation is held against both -/
theorem mrO_s {x y : Int32} {k : Nat} : mrO x y (k + 1) = if mlO (nI (bgT k)) 10 20 = x ∧ mlO (nI (enT k)) 10 20 = y then nI k else mrO x y k := rfl
set_option maxRecDepth 10000 in
theorem m_relationOf (I : SI) (J : SJ) (p q : Int32) (h1 : ∀ r, r < 13 → I 38 0 r = nI (bgT r)) (h2 : ∀ r, r < 13 → I 39 0 r = nI (enT r)) (d : Nat) (hd : 1 < d) : Tri d YX9_relationOf 117 [vr 29 0, vi p, vi q] (S0 I J) (fun r σ => σ = S0 I J ∧ r = some (vi (mrl p q))) := by
  refine Tri.of (M := MX9_relationOf) k_X9_relationOf ⟨Nat.le_refl _, Nat.le_refl _⟩ (Nat.le_of_ble_eq_true rfl) ?_
  generalize hQ : (fun (r : Option AV) (σ : ST) => σ = S0 I J ∧ r = some (vi (mrl p q))) = Q
  have loop : ∀ (m k : Nat), k + m = 13 → Sat none MX9_relationOf d 117 Q 40 [some (vr 29 0), some (vi p), some (vi q), some (vi (mlO (mbO p) (mbO q) (meO q))), some (vi (mlO (meO p) (mbO q) (meO q))), some (vi (mrO (mlO (mbO p) (mbO q) (meO q)) (mlO (meO p) (mbO q) (meO q)) k)), some (vi (nI k))] [] (S0 I J) := by
    intro m
    induction m with
    | zero =>
      intro k hk
      have e : k = 13 := by omega
      subst e
      refine Sat.of k_X9_relationOf [40] 60 ?_
      refine ⟨fun _ => ⟨rfl, trivial, ?_⟩, fun c => absurd (nI_le (a := 13) (b := 13) (by omega) (by omega)) c⟩
      rw [← hQ]
      exact ⟨rfl, rfl⟩
    | succ m ih =>
      intro k hk
      have s91 : ∀ v, v = mrO (mlO (mbO p) (mbO q) (meO q)) (mlO (meO p) (mbO q) (meO q)) (k + 1) → Sat none MX9_relationOf d 117 Q 91 [some (vr 29 0), some (vi p), some (vi q), some (vi (mlO (mbO p) (mbO q) (meO q))), some (vi (mlO (meO p) (mbO q) (meO q))), some (vi (mrO (mlO (mbO p) (mbO q) (meO q)) (mlO (meO p) (mbO q) (meO q)) k)), some (vi (nI k))] [vi v] (S0 I J) := fun v hv => by
        refine Sat.of k_X9_relationOf [40] 60 ?_
        refine (ih (k + 1) (by omega)).to ?_ rfl
        rw [← hv, ← nI_1 k]
        rfl
      refine Sat.of k_X9_relationOf [40, 91] 60 ?_
      refine ⟨fun c => absurd ((nI_leI (a := 13) (by omega) (by omega)).mp c) (by omega), fun _ => ⟨vp_in_nI (by omega) (by decide), 1, 117, hd, Nat.le_refl _, (m_laid I J (nI (bgT k)) 10 20 1).to ?_ rfl ?_⟩⟩
      · show [vi (I 38 0 (nI k).toNatClampNeg), vi 10, vi 20] = _
        rw [nI_clamp (by omega), h1 k (by omega)]
      · rintro r σ ⟨rfl, rfl⟩
        refine ⟨fun c => s91 _ ?_, fun c => ⟨vp_in_nI (by omega) (by decide), 1, 117, hd, Nat.le_refl _, (m_laid I J (nI (enT k)) 10 20 1).to ?_ rfl ?_⟩⟩
        · rw [mrO_s, if_neg (fun z => c z.1)]
        · show [vi (I 39 0 (nI k).toNatClampNeg), vi 10, vi 20] = _
          rw [nI_clamp (by omega), h2 k (by omega)]
        · rintro r σ ⟨rfl, rfl⟩
          refine ⟨fun c2 => s91 _ ?_, fun c2 => s91 _ ?_⟩
          · rw [mrO_s, if_neg (fun z => c2 z.2)]
          · rw [mrO_s, if_pos ⟨c, c2⟩]
  refine Sat.of k_X9_relationOf [40] 60 ?_
  refine ⟨1, 117, hd, Nat.le_refl _, (m_beginOf I J p 1).mono ?_⟩
  rintro r σ ⟨rfl, rfl⟩
  refine ⟨1, 117, hd, Nat.le_refl _, (m_beginOf I J q 1).mono ?_⟩
  rintro r σ ⟨rfl, rfl⟩
  refine ⟨1, 117, hd, Nat.le_refl _, (m_endOf I J q 1 (by decide)).mono ?_⟩
  rintro r σ ⟨rfl, rfl⟩
  refine ⟨1, 117, hd, Nat.le_refl _, (m_laid I J (mbO p) (mbO q) (meO q) 1).mono ?_⟩
  rintro r σ ⟨rfl, rfl⟩
  refine ⟨1, 117, hd, Nat.le_refl _, (m_endOf I J p 1 (by decide)).mono ?_⟩
  rintro r σ ⟨rfl, rfl⟩
  refine ⟨1, 117, hd, Nat.le_refl _, (m_beginOf I J q 1).mono ?_⟩
  rintro r σ ⟨rfl, rfl⟩
  refine ⟨1, 117, hd, Nat.le_refl _, (m_endOf I J q 1 (by decide)).mono ?_⟩
  rintro r σ ⟨rfl, rfl⟩
  refine ⟨1, 117, hd, Nat.le_refl _, (m_laid I J (meO p) (mbO q) (meO q) 1).mono ?_⟩
  rintro r σ ⟨rfl, rfl⟩
  exact (loop 13 0 (by decide)).to rfl rfl
