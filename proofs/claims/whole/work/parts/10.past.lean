/-! Past, Seen -/
theorem Sat.to {X : Option (Nat × (Nat → Int32))} {M : MD} {d N1 : Nat} {Q : Option AV → ST → Prop} {pc : Nat} {ls ls1 : LV} {st : List AV} {σ σ1 : ST} (h : Sat X M d N1 Q pc ls st σ) (e1 : ls1 = ls) (e2 : σ1 = σ) : Sat X M d N1 Q pc ls1 st σ1 := by
  subst e1; subst e2; exact h
theorem Tri.to {d : Nat} {Y : Yd} {n1 : Nat} {as as1 : List AV} {σ σ1 : ST} {Q Q1 : Option AV → ST → Prop} (h : Tri d Y n1 as σ Q) (e1 : as1 = as) (e2 : σ1 = σ) (hQ : ∀ r σ, Q r σ → Q1 r σ) : Tri d Y n1 as1 σ1 Q1 := by
  subst e1; subst e2; exact h.mono hQ
theorem uA_aT {t k j : Nat} : uA aT t k j = aT := by
  funext a b c
  simp [uA, aT]
/-- the order in which the past's books lie -/
def PRM (I : SI) (π : Nat → Nat) : Prop := (∀ j, j < 8 → I 19 0 j = nI (π j) ∧ 2 ≤ π j ∧ π j ≤ 9) ∧ ∀ i j, i < 8 → j < 8 → π i = π j → i = j
def PST (I : SI) (ev : Nat) (H : List (List Ob)) : Prop := ∃ π, PRM I π ∧ I 18 0 1 = nI H.length ∧ H.length ≤ 8 ∧ ∀ j, j < H.length → BK I (π j) ev (nthD H j [])
/-- nothing but the past has changed -/
def frP (I I1 : SI) : Prop := ∀ t k, ¬ (t = 18 ∨ t = 19 ∨ (3 ≤ t ∧ t ≤ 6 ∧ 2 ≤ k ∧ k ≤ 9)) → I1 t k = I t k
theorem BK.same {I I1 : SI} {b ev : Nat} {L : List Ob} (h : BK I b ev L) (e : ∀ t, 3 ≤ t → t ≤ 6 → I1 t b = I t b) : BK I1 b ev L := by
  unfold BK at h ⊢
  rw [e 3 (by omega) (by omega), e 4 (by omega) (by omega), e 5 (by omega) (by omega), e 6 (by omega) (by omega)]
  exact h
set_option maxRecDepth 10000 in
theorem c_loseOldest (I : SI) (J : SJ) (n : Nat) (π : Nat → Nat) (h : PRM I π) (hn : I 18 0 1 = nI (n + 1)) (hn8 : n < 8) (d : Nat) : Tri d YX5_loseOldest 117 [vr 18 0] (S0 I J) (fun r σ => r = none ∧ ∃ I1, σ = S0 I1 J ∧ PRM I1 (fun j => if j < 7 then π (j + 1) else π 0) ∧ I1 18 0 1 = nI n ∧ ∀ t k, ¬ (t = 18 ∨ t = 19) → I1 t k = I t k) := by
  refine Tri.of (M := MX5_loseOldest) k_X5_loseOldest ⟨Nat.le_refl _, Nat.le_refl _⟩ (Nat.le_of_ble_eq_true rfl) ?_
  obtain ⟨h1, h2⟩ := h
  have loop : ∀ (m i : Nat) (I1 : SI), i + m = 8 → 1 ≤ i → (∀ t k, ¬ t = 19 → I1 t k = I t k) → (∀ j, j < i - 1 → I1 19 0 j = nI (π (j + 1))) → (∀ j, i - 1 ≤ j → I1 19 0 j = I 19 0 j) →
      Sat none MX5_loseOldest d 117 (fun r σ => r = none ∧ ∃ I1, σ = S0 I1 J ∧ PRM I1 (fun j => if j < 7 then π (j + 1) else π 0) ∧ I1 18 0 1 = nI n ∧ ∀ t k, ¬ (t = 18 ∨ t = 19) → I1 t k = I t k) 9 [some (vr 18 0), some (vr 3 (π 0)), some (vi (nI i))] [] (S0 I1 J) := by
    intro m
    induction m with
    | zero =>
      intro i I1 hi hi1 hf g1 g2
      have hi8 : i = 8 := by omega
      subst hi8
      refine Sat.of k_X5_loseOldest [9] 60 ?_
      refine ⟨fun c => ⟨vp_in_nI (n := 7) (by decide) (by decide), rfl, rfl, rfl, _, congrArg (fun a => (_, J, 117, a)) uA_aT, ⟨fun j hj => ?_, ?_⟩, ?_, fun t k hk => ?_⟩, fun c => absurd (nI_le (a := 8) (b := 8) (by omega) (by omega)) c⟩
      · rw [uI_t (by decide)]
        by_cases hj7 : j = 7
        · subst hj7
          show uI I1 19 0 (nI 7).toNatClampNeg _ 19 0 7 = _ ∧ _
          rw [nI_clamp (by omega), uI_at]
          show _ = nI (if 7 < 7 then π (7 + 1) else π 0) ∧ 2 ≤ (if 7 < 7 then π (7 + 1) else π 0) ∧ (if 7 < 7 then π (7 + 1) else π 0) ≤ 9
          rw [if_neg (by omega)]
          exact ⟨rfl, (h1 0 (by omega)).2⟩
        · show uI I1 19 0 (nI 7).toNatClampNeg _ 19 0 j = _ ∧ _
          rw [nI_clamp (by omega), uI_j hj7, g1 j (by omega)]
          show _ = nI (if j < 7 then π (j + 1) else π 0) ∧ 2 ≤ (if j < 7 then π (j + 1) else π 0) ∧ (if j < 7 then π (j + 1) else π 0) ≤ 9
          rw [if_pos (show j < 7 by omega)]
          exact ⟨rfl, (h1 (j + 1) (by omega)).2⟩
      · intro a b ha hb hab
        simp only at hab
        by_cases ha7 : a < 7 <;> by_cases hb7 : b < 7
        · rw [if_pos ha7, if_pos hb7] at hab
          have := h2 _ _ (by omega) (by omega) hab
          omega
        · rw [if_pos ha7, if_neg hb7] at hab
          have := h2 _ _ (by omega) (by omega) hab
          omega
        · rw [if_neg ha7, if_pos hb7] at hab
          have := h2 _ _ (by omega) (by omega) hab
          omega
        · omega
      · rw [uI_at, uI_t (by decide), hf 18 0 (by decide), hn]
        exact nI_pred n
      · have h18 : t ≠ 18 := fun e => hk (Or.inl e)
        have h19 : t ≠ 19 := fun e => hk (Or.inr e)
        rw [uI_tt h18, uI_tt h19]
        exact hf t k h19
    | succ m ih =>
      intro i I1 hi hi1 hf g1 g2
      have e0 : (nI i).toNatClampNeg = i := nI_clamp (by omega)
      have e1 : nI i - 1 = nI (i - 1) := nI_m1 (by omega)
      have e2 : (nI (i - 1)).toNatClampNeg = i - 1 := nI_clamp (by omega)
      have hpi := h1 i (by omega)
      have e3 : I1 19 0 i = nI (π i) := by rw [g2 i (by omega)]; exact hpi.1
      have e4 : (nI (π i)).toNatClampNeg = π i := nI_clamp (by omega)
      refine Sat.of k_X5_loseOldest [9] 60 ?_
      refine ⟨fun c => ?_, fun c => ⟨vp_in_nI (by omega) (by omega), ?_, ?_, ?_⟩⟩
      · exact absurd ((nI_leI (a := 8) (by omega) (by omega)).mp c) (by omega)
      · show (I1 19 0 (nI i).toNatClampNeg).toNatClampNeg < 12
        rw [e0, e3, e4]
        omega
      · show vp_in (nI i - 1) 8
        rw [e1]
        exact vp_in_nI (by omega) (by omega)
      · refine (ih (i + 1) (uI I1 19 0 (i - 1) (nI (π i))) (by omega) (by omega) (fun t k ht => by rw [uI_tt ht]; exact hf t k ht) (fun j hj => ?_) (fun j hj => ?_)).to ?_ ?_
        · by_cases hj2 : j = i - 1
          · subst hj2
            rw [uI_at]
            congr 2
            omega
          · rw [uI_j hj2]
            exact g1 j (by omega)
        · rw [uI_j (by omega)]
          exact g2 j (by omega)
        · rw [← nI_1]
          rfl
        · show (uI I1 19 0 (nI i - 1).toNatClampNeg (nI (I1 19 0 (nI i).toNatClampNeg).toNatClampNeg), J, 117, uA aT 19 0 (nI i - 1).toNatClampNeg) = _
          rw [e0, e3, e4, e1, e2]
          rw [uA_aT]
  refine Sat.of k_X5_loseOldest [9] 60 ?_
  refine ⟨vp_in_nI (n := 0) (by decide) (by decide), ?_, ?_⟩
  · show (I 19 0 (nI 0).toNatClampNeg).toNatClampNeg < 12
    have := h1 0 (by omega)
    rw [nI_clamp (by omega), this.1, nI_clamp (by omega)]
    omega
  · refine (loop 7 1 I (by omega) (by omega) (fun _ _ _ => rfl) (fun j hj => absurd hj (by omega)) (fun _ _ => rfl)).to ?_ rfl
    have e5 : (I 19 0 (nI 0).toNatClampNeg).toNatClampNeg = π 0 := by
      have := h1 0 (by omega)
      rw [nI_clamp (by omega), this.1, nI_clamp (by omega)]
    show [some (vr 18 0), some (vr 3 (I 19 0 (nI 0).toNatClampNeg).toNatClampNeg), some (vi 1)] = _
    rw [e5]
    rfl
set_option maxRecDepth 10000 in
theorem c_remember (I : SI) (J : SJ) (ev : Nat) (L : List Ob) (H : List (List Ob)) (h : PST I ev H) (hb : BK I 1 ev L) (d : Nat) (hd : 0 < d) : Tri d YX5_remember 117 [vr 18 0, vr 3 1] (S0 I J) (fun r σ => r = none ∧ ∃ I1, σ = S0 I1 J ∧ PST I1 ev ((if H.length = 8 then H.tail else H) ++ [L]) ∧ frP I I1) := by
  refine Tri.of (M := MX5_remember) k_X5_remember ⟨Nat.le_refl _, Nat.le_refl _⟩ (Nat.le_of_ble_eq_true rfl) ?_
  obtain ⟨π, hp, h2, h3, h4⟩ := h
  -- the copy, from any order of the books
  have rest : ∀ (I1 : SI) (H1 : List (List Ob)) (ρ : Nat → Nat), PRM I1 ρ → I1 18 0 1 = nI H1.length → H1.length < 8 → (∀ j, j < H1.length → BK I1 (ρ j) ev (nthD H1 j [])) → BK I1 1 ev L → frP I I1 →
      Sat none MX5_remember d 117 (fun r σ => r = none ∧ ∃ I1, σ = S0 I1 J ∧ PST I1 ev (H1 ++ [L]) ∧ frP I I1) 13 [some (vr 18 0), some (vr 3 1)] [] (S0 I1 J) := by
    intro I1 H1 ρ g1 g2 g3 g4 g5 g6
    refine Sat.of k_X5_remember [] 60 ?_
    have hr := g1.1 H1.length g3
    have e1 : (I1 19 0 (I1 18 0 1).toNatClampNeg).toNatClampNeg = ρ H1.length := by
      rw [g2, nI_clamp (by omega), hr.1, nI_clamp (by omega)]
    refine ⟨?_, ?_, 0, 117, hd, Nat.le_refl _, (c_copyFrom I1 J (ρ H1.length) 1 ev L g5 (by omega) 0).to ?_ rfl ?_⟩
    · show vp_in (I1 18 0 1) 8
      rw [g2]
      exact vp_in_nI g3 (by omega)
    · show (I1 19 0 (I1 18 0 1).toNatClampNeg).toNatClampNeg < 12
      rw [e1]
      omega
    · show [vr 3 (I1 19 0 (I1 18 0 1).toNatClampNeg).toNatClampNeg, vr 3 1] = _
      rw [e1]
    · rintro r σ ⟨rfl, I2, rfl, q1, q2⟩
      have q18 : I2 18 0 = I1 18 0 := q2 18 0 (by omega)
      have q19 : I2 19 0 = I1 19 0 := q2 19 0 (by omega)
      refine ⟨rfl, rfl, rfl, _, rfl, ⟨ρ, ⟨fun j hj => ?_, g1.2⟩, ?_, by simp; omega, fun j hj => ?_⟩, fun t k hk => ?_⟩
      · rw [uI_t (by decide), q19]
        exact g1.1 j hj
      · rw [uI_at, q18, g2, List.length_append]
        exact nI_1 _
      · rw [List.length_append] at hj
        have hj : j < H1.length + 1 := hj
        rw [nthD_snoc]
        by_cases hj2 : j < H1.length
        · rw [if_pos hj2]
          have hne : ρ j ≠ ρ H1.length := fun e => by
            have := g1.2 j H1.length (by omega) g3 e
            omega
          exact ((g4 j hj2).fr q2 hne).same (fun t h1 h2 => by rw [uI_tt (by omega)])
        · have hje : j = H1.length := by omega
          subst hje
          rw [if_neg (by omega), if_pos rfl]
          exact q1.same (fun t h1 h2 => by rw [uI_tt (by omega)])
      · rw [uI_tt (fun e => hk (Or.inl e)), q2 t k (fun q => hk (Or.inr (Or.inr (by omega))))]
        exact g6 t k hk
  refine Sat.of k_X5_remember [13] 60 ?_
  refine ⟨fun c => ?_, fun c => ⟨0, 117, hd, Nat.le_refl _, (c_loseOldest I J 7 π hp ?_ (by omega) 0).mono ?_⟩⟩
  · have c : ¬ I 18 0 1 = nI 8 := c
    rw [h2] at c
    have h8 : H.length ≠ 8 := fun e => c (by rw [e])
    rw [if_neg h8]
    exact rest I H π hp h2 (by omega) h4 hb (fun _ _ _ => rfl)
  · have c : I 18 0 1 = nI 8 := c
    exact c
  · have c : I 18 0 1 = nI 8 := c
    have h8 : H.length = 8 := by
      rw [h2] at c
      exact (nI_eq (by omega) (by omega)).mp c
    rintro r σ ⟨rfl, I1, rfl, q1, q2, q3⟩
    rw [if_pos h8]
    have ht : H.tail.length = 7 := by rw [List.length_tail]; omega
    refine rest I1 H.tail _ q1 (by rw [ht]; exact q2) (by omega) (fun j hj => ?_) (hb.same (fun t _ _ => q3 t 1 (by omega))) (fun t k hk => q3 t k (fun q => hk (by omega)))
    rw [if_pos (by omega)]
    have hz := h4 (j + 1) (by omega)
    have e9 : nthD H.tail j [] = nthD H (j + 1) [] := by
      cases H with
      | nil => simp at h8
      | cons a l => rfl
    rw [e9]
    exact hz.same (fun t _ _ => q3 t _ (by omega))
set_option maxRecDepth 10000 in
theorem c_recall (I : SI) (J : SJ) (ev : Nat) (L : List Ob) (H : List (List Ob)) (h : PST I ev (H ++ [L])) (d : Nat) (hd : 0 < d) : Tri d YX5_recall 117 [vr 18 0, vr 3 1] (S0 I J) (fun r σ => r = none ∧ ∃ I1, σ = S0 I1 J ∧ PST I1 ev H ∧ BK I1 1 ev L ∧ ∀ t k, ¬ (t = 18 ∨ (3 ≤ t ∧ t ≤ 6 ∧ k = 1)) → I1 t k = I t k) := by
  refine Tri.of (M := MX5_recall) k_X5_recall ⟨Nat.le_refl _, Nat.le_refl _⟩ (Nat.le_of_ble_eq_true rfl) ?_
  obtain ⟨π, hp, h2, h3, h4⟩ := h
  have hl : (H ++ [L]).length = H.length + 1 := by simp
  rw [hl] at h2 h3 h4
  refine Sat.of k_X5_recall [] 60 ?_
  have hr := hp.1 H.length (by omega)
  have hBK := h4 H.length (by omega)
  rw [nthD_snoc, if_neg (by omega), if_pos rfl] at hBK
  have e0 : uI I 18 0 1 (I 18 0 1 - 1) = uI I 18 0 1 (nI H.length) := by rw [h2]; congr 1; exact nI_pred _
  have e1 : (uI I 18 0 1 (nI H.length) 19 0 (uI I 18 0 1 (nI H.length) 18 0 1).toNatClampNeg).toNatClampNeg = π H.length := by
    rw [uI_at, nI_clamp (by omega), uI_t (by decide), hr.1, nI_clamp (by omega)]
  refine ⟨fun c => ?_, fun c => ⟨?_, ?_, 0, 117, hd, Nat.le_refl _, (c_copyFrom (uI I 18 0 1 (nI H.length)) J 1 (π H.length) ev L (hBK.same (fun t _ _ => uI_tt (by omega))) (by omega) 0).to ?_ ?_ ?_⟩⟩
  · have c : I 18 0 1 ≤ 0 := c
    rw [h2] at c
    exact absurd c (nI_nle (by omega) (by omega))
  · show vp_in (uI I 18 0 1 (I 18 0 1 - 1) 18 0 1) 8
    rw [e0, uI_at]
    exact vp_in_nI (by omega) (by omega)
  · show (uI I 18 0 1 (I 18 0 1 - 1) 19 0 (uI I 18 0 1 (I 18 0 1 - 1) 18 0 1).toNatClampNeg).toNatClampNeg < 12
    rw [e0, e1]
    omega
  · show [vr 3 1, vr 3 (uI I 18 0 1 (I 18 0 1 - 1) 19 0 (uI I 18 0 1 (I 18 0 1 - 1) 18 0 1).toNatClampNeg).toNatClampNeg] = _
    rw [e0, e1]
  · show (uI I 18 0 1 (I 18 0 1 - 1), J, 117, aT) = _
    rw [e0]
  · rintro r σ ⟨rfl, I2, rfl, q1, q2⟩
    refine ⟨rfl, rfl, rfl, I2, rfl, ⟨π, ⟨fun j hj => ?_, hp.2⟩, ?_, by omega, fun j hj => ?_⟩, q1, fun t k hk => ?_⟩
    · rw [q2 19 0 (by omega), uI_t (by decide)]
      exact hp.1 j hj
    · rw [q2 18 0 (by omega), uI_at]
    · have hz := h4 j (by omega)
      rw [nthD_snoc, if_pos hj] at hz
      have hj9 := hp.1 j (by omega)
      exact hz.same (fun t _ _ => by rw [q2 t (π j) (by omega), uI_tt (by omega)])
    · rw [q2 t k (by omega), uI_tt (by omega)]
set_option maxRecDepth 10000 in
theorem c_dropAll (I : SI) (J : SJ) (d : Nat) : Tri d YX5_dropAll 117 [vr 18 0] (S0 I J) (fun r σ => r = none ∧ σ = S0 (uI I 18 0 1 0) J) := by
  refine Tri.of (M := MX5_dropAll) k_X5_dropAll ⟨Nat.le_refl _, Nat.le_refl _⟩ (Nat.le_of_ble_eq_true rfl) ?_
  refine Sat.of k_X5_dropAll [] 60 ?_
  exact ⟨rfl, rfl, rfl, rfl⟩
/-- what was seen: (x, r, y) -/
def SNP (I : SI) (S : List Ob) : Prop := I 21 0 3 = nI S.length ∧ S.length ≤ 6 ∧ ∀ j, j < S.length → I 22 0 j = nI (nthD S j (0, 0, 0)).1 ∧ I 23 0 j = nI (nthD S j (0, 0, 0)).2.1 ∧ I 24 0 j = nI (nthD S j (0, 0, 0)).2.2
def frS (I I1 : SI) : Prop := ∀ t k, ¬ (21 ≤ t ∧ t ≤ 24) → I1 t k = I t k
set_option maxRecDepth 10000 in
theorem c_seenAppend (I : SI) (J : SJ) (S : List Ob) (x w y : Nat) (h : SNP I S) (hl : S.length < 6) (d : Nat) : Tri d YX7_append 117 [vr 21 0, vi (nI x), vi (nI w), vi (nI y)] (S0 I J) (fun r σ => r = none ∧ ∃ I1, σ = S0 I1 J ∧ SNP I1 (S ++ [(x, w, y)]) ∧ frS I I1) := by
  refine Tri.of (M := MX7_append) k_X7_append ⟨Nat.le_refl _, Nat.le_refl _⟩ (Nat.le_of_ble_eq_true rfl) ?_
  refine Sat.of k_X7_append [] 60 ?_
  obtain ⟨h2, h3, h6⟩ := h
  refine ⟨fun c1 => ?_, fun c1 => ⟨?_, ?_, ?_, rfl, rfl, rfl, ?_⟩⟩
  · have c1 : nI 6 ≤ I 21 0 3 := c1
    rw [h2] at c1
    exact absurd ((nI_leI (by omega) (by omega)).mp c1) (by omega)
  · show vp_in (I 21 0 3) 6
    rw [h2]
    exact vp_in_nI hl (by omega)
  · show vp_in (uI I 22 0 _ _ 21 0 3) 6
    rw [uI_t (by decide), h2]
    exact vp_in_nI hl (by omega)
  · show vp_in (uI (uI I 22 0 _ _) 23 0 _ _ 21 0 3) 6
    rw [uI_t (by decide), uI_t (by decide), h2]
    exact vp_in_nI hl (by omega)
  · have e0 : (nI S.length).toNatClampNeg = S.length := nI_clamp (by omega)
    refine ⟨uI (uI (uI (uI I 22 0 S.length (nI x)) 23 0 S.length (nI w)) 24 0 S.length (nI y)) 21 0 3 (nI (S.length + 1)), ?_, ⟨?_, ?_, ?_⟩, ?_⟩
    · simp [S0, uI_t, h2, e0, nI_1]
    · rw [uI_at, List.length_append]; rfl
    · rw [List.length_append]; show S.length + 1 ≤ 6; omega
    · intro j hj
      rw [List.length_append] at hj
      have hj : j < S.length + 1 := hj
      rw [nthD_snoc]
      by_cases hj2 : j < S.length
      · rw [if_pos hj2]
        have h7 := h6 j hj2
        have hne : j ≠ S.length := by omega
        simp [uI_t, uI_j, hne, h7]
      · have hje : j = S.length := by omega
        subst hje
        simp [uI_t, uI_at]
    · intro t k hk
      rw [uI_tt (by omega), uI_tt (by omega), uI_tt (by omega), uI_tt (by omega)]
