/-! The model: items -/
theorem uI_id {I : SI} {t k j : Nat} : uI I t k j (I t k j) = I := by
  funext a b c
  unfold uI
  split
  · rename_i q
    rw [q.1, q.2.1, q.2.2]
  · rfl
def wdM (t : Nat → Nat) (n : Nat) (R : Toks) : Nat := match R with
  | [] => 0
  | (p, e) :: _ => wdS t n p e
def stM (t : Nat → Nat) (n : Nat) (R : Toks) : Nat := match R with
  | [] => 0
  | (p, e) :: _ => if 1 ≤ stR t n p e ∧ stR t n p e ≤ 8191 then stR t n p e else 0
theorem mk_t {t : Nat → Nat} {n p e : Nat} : (mkd t n p e = 2 ↔ kAt t n p = 1) ∧ (mkd t n p e = 1 ↔ kAt t n p = 2 ∧ vlN t p (e - p) ≤ 9999) ∧ (mkd t n p e = 3 ↔ kAt t n p = 3) := by
  unfold mkd
  by_cases q : kAt t n p = 1
  · rw [if_pos q, q]
    simp
  · rw [if_neg q]
    by_cases q2 : kAt t n p = 2
    · rw [if_pos q2, q2]
      by_cases q3 : vlN t p (e - p) ≤ 9999
      · rw [if_pos q3]
        simp [q3]
      · rw [if_neg q3]
        simp [q3]
    · rw [if_neg q2]
      by_cases q3 : kAt t n p = 3
      · rw [if_pos q3, q3]
        simp
      · rw [if_neg q3]
        simp [q, q2, q3]
theorem isW_1 {t : Nat → Nat} {n w p e : Nat} (h : isW t n w p e = true) : kAt t n p = 1 ∧ e - p = nthD slen w 0 := by
  unfold isW at h
  rw [Bool.and_eq_true, Bool.and_eq_true, decide_eq_true_eq, decide_eq_true_eq] at h
  exact h.1
theorem wdS_8 {t : Nat → Nat} {n p e : Nat} : wdS t n p e ≤ 8191 := by
  unfold wdS
  repeat' split
  all_goals decide
set_option maxRecDepth 10000 in
theorem m_setTold (I : SI) (J : SJ) (n : Nat) (t : Nat → Nat) (R : Toks) (h : ATT I t n R) (hX : MTX I n t) (d : Nat) (hd : 1 < d) : Tri d YX9_setTold 117 [vr 29 0] (S0 I J) (fun r σ => σ = S0 I J ∧ r = some (vi (nI (stM t n R)))) := by
  refine Tri.of (M := MX9_setTold) k_X9_setTold ⟨Nat.le_refl _, Nat.le_refl _⟩ (Nat.le_of_ble_eq_true rfl) ?_
  generalize hQ : (fun (r : Option AV) (σ : ST) => σ = S0 I J ∧ r = some (vi (nI (stM t n R)))) = Q
  -- the words
  have s162 : ∀ v, v = stM t n R → Sat none MX9_setTold d 117 Q 162 [some (vr 29 0)] [vi (nI v)] (S0 I J) := fun v hv => by
    subst hv
    refine Sat.of k_X9_setTold [] 60 ?_
    refine ⟨rfl, trivial, ?_⟩
    rw [← hQ]
    exact ⟨rfl, rfl⟩
  have words : (∀ p e r, R = (p, e) :: r → ¬ kAt t n p = 2 ∨ ¬ vlN t p (e - p) ≤ 9999) → Sat none MX9_setTold d 117 Q 37 [some (vr 29 0)] [] (S0 I J) := fun hno => by
    have hst : ∀ v, v = wdM t n R → v = stM t n R := fun v hv => by
      subst hv
      cases R with
      | nil => rfl
      | cons x r =>
        obtain ⟨p, e⟩ := x
        simp only [stM]
        show wdS t n p e = _
        unfold stR
        rcases hno p e r rfl with q | q
        · rw [if_neg q]
          have := wdS_8 (t := t) (n := n) (p := p) (e := e)
          split
          · rfl
          · omega
        · by_cases q2 : kAt t n p = 2
          · rw [if_pos q2, if_neg (by omega)]
            unfold wdS
            have nw : ∀ w, ¬ isW t n w p e = true := fun w z => by
              have := (isW_1 z).1
              omega
            rw [if_neg (nw 1), if_neg (nw 2), if_neg (nw 3), if_neg (nw 4), if_neg (nw 5), if_neg (nw 6), if_neg (nw 7), if_neg (nw 8)]
          · rw [if_neg q2]
            have := wdS_8 (t := t) (n := n) (p := p) (e := e)
            split
            · rfl
            · omega
    have W : ∀ w, w < 9 → Tri 1 YX9_isWord 117 [vr 29 0, vl (wL w)] (S0 I J) (fun r σ => σ = S0 I J ∧ r = some (vi (bi (wdR t n w R)))) := fun w hw => m_isWord I J n w t R h hX hw 1 (by decide)
    have pick : ∀ v w, wdR t n w R = true → (∀ p e r, R = (p, e) :: r → isW t n w p e = true → v = wdS t n p e) → v = stM t n R := fun v w hw hv => hst v (by
      cases R with
      | nil => exact absurd (show false = true from hw) (by decide)
      | cons x r =>
        obtain ⟨p, e⟩ := x
        exact hv p e r rfl hw)
    have ne : ∀ w p e r, R = (p, e) :: r → wdR t n w R = false → ¬ isW t n w p e = true := fun w p e r hR hw => by
      rw [hR] at hw
      have hw : isW t n w p e = false := hw
      rw [hw]
      decide
    refine Sat.of k_X9_setTold [162] 60 ?_
    refine ⟨1, 117, hd, Nat.le_refl _, (W 1 (by decide)).mono ?_⟩
    rintro r σ ⟨rfl, rfl⟩
    refine ⟨fun c1 => ⟨1, 117, hd, Nat.le_refl _, (W 2 (by decide)).mono ?_⟩, fun c => s162 3 (pick _ 1 (bi_t c) (fun p e r hR hw => by unfold wdS; rw [if_pos hw]))⟩
    rintro r σ ⟨rfl, rfl⟩
    refine ⟨fun c2 => ⟨1, 117, hd, Nat.le_refl _, (W 3 (by decide)).mono ?_⟩, fun c => s162 6144 (pick _ 2 (bi_t c) (fun p e r hR hw => by unfold wdS; rw [if_neg (ne 1 p e r hR (bi_f c1)), if_pos hw]))⟩
    rintro r σ ⟨rfl, rfl⟩
    refine ⟨fun c3 => ⟨1, 117, hd, Nat.le_refl _, (W 4 (by decide)).mono ?_⟩, fun c => s162 7216 (pick _ 3 (bi_t c) (fun p e r hR hw => by unfold wdS; rw [if_neg (ne 1 p e r hR (bi_f c1)), if_neg (ne 2 p e r hR (bi_f c2)), if_pos hw]))⟩
    rintro r σ ⟨rfl, rfl⟩
    refine ⟨fun c4 => ⟨1, 117, hd, Nat.le_refl _, (W 5 (by decide)).mono ?_⟩, fun c => s162 7936 (pick _ 4 (bi_t c) (fun p e r hR hw => by unfold wdS; rw [if_neg (ne 1 p e r hR (bi_f c1)), if_neg (ne 2 p e r hR (bi_f c2)), if_neg (ne 3 p e r hR (bi_f c3)), if_pos hw]))⟩
    rintro r σ ⟨rfl, rfl⟩
    refine ⟨fun c5 => ⟨1, 117, hd, Nat.le_refl _, (W 6 (by decide)).mono ?_⟩, fun c => s162 120 (pick _ 5 (bi_t c) (fun p e r hR hw => by unfold wdS; rw [if_neg (ne 1 p e r hR (bi_f c1)), if_neg (ne 2 p e r hR (bi_f c2)), if_neg (ne 3 p e r hR (bi_f c3)), if_neg (ne 4 p e r hR (bi_f c4)), if_pos hw]))⟩
    rintro r σ ⟨rfl, rfl⟩
    refine ⟨fun c6 => ⟨1, 117, hd, Nat.le_refl _, (W 7 (by decide)).mono ?_⟩, fun c => s162 2044 (pick _ 6 (bi_t c) (fun p e r hR hw => by unfold wdS; rw [if_neg (ne 1 p e r hR (bi_f c1)), if_neg (ne 2 p e r hR (bi_f c2)), if_neg (ne 3 p e r hR (bi_f c3)), if_neg (ne 4 p e r hR (bi_f c4)), if_neg (ne 5 p e r hR (bi_f c5)), if_pos hw]))⟩
    rintro r σ ⟨rfl, rfl⟩
    refine ⟨fun c7 => ⟨1, 117, hd, Nat.le_refl _, (W 8 (by decide)).mono ?_⟩, fun c => s162 2050 (pick _ 7 (bi_t c) (fun p e r hR hw => by unfold wdS; rw [if_neg (ne 1 p e r hR (bi_f c1)), if_neg (ne 2 p e r hR (bi_f c2)), if_neg (ne 3 p e r hR (bi_f c3)), if_neg (ne 4 p e r hR (bi_f c4)), if_neg (ne 5 p e r hR (bi_f c5)), if_neg (ne 6 p e r hR (bi_f c6)), if_pos hw]))⟩
    rintro r σ ⟨rfl, rfl⟩
    refine ⟨fun c8 => s162 0 (hst 0 ?_), fun c => s162 64 (pick _ 8 (bi_t c) (fun p e r hR hw => by unfold wdS; rw [if_neg (ne 1 p e r hR (bi_f c1)), if_neg (ne 2 p e r hR (bi_f c2)), if_neg (ne 3 p e r hR (bi_f c3)), if_neg (ne 4 p e r hR (bi_f c4)), if_neg (ne 5 p e r hR (bi_f c5)), if_neg (ne 6 p e r hR (bi_f c6)), if_neg (ne 7 p e r hR (bi_f c7)), if_pos hw]))⟩
    cases hR : R with
    | nil => rfl
    | cons x r =>
      obtain ⟨p, e⟩ := x
      show 0 = wdS t n p e
      unfold wdS
      rw [if_neg (ne 1 p e r hR (bi_f c1)), if_neg (ne 2 p e r hR (bi_f c2)), if_neg (ne 3 p e r hR (bi_f c3)), if_neg (ne 4 p e r hR (bi_f c4)), if_neg (ne 5 p e r hR (bi_f c5)), if_neg (ne 6 p e r hR (bi_f c6)), if_neg (ne 7 p e r hR (bi_f c7)), if_neg (ne 8 p e r hR (bi_f c8))]
  refine Sat.of k_X9_setTold [37] 60 ?_
  refine ⟨0, 117, by omega, Nat.le_refl _, (m_isKind I J n 1 t R h (by decide) 0).mono ?_⟩
  rintro r σ ⟨rfl, rfl⟩
  refine ⟨fun c => words (fun p e r hR => ?_), fun c => ?_⟩
  · rw [hR] at c
    have c : decide (mkd t n p e = 1) = false := bi_f c
    have c := of_decide_eq_false c
    rw [mk_t.2.1] at c
    by_cases q : kAt t n p = 2
    · exact Or.inr (fun z => c ⟨q, z⟩)
    · exact Or.inl q
  · have c := bi_t c
    cases hR : R with
    | nil => rw [hR] at c; exact absurd (show false = true from c) (by decide)
    | cons x r =>
      obtain ⟨p, e⟩ := x
      rw [hR] at c h
      have c : mkd t n p e = 1 := of_decide_eq_true c
      obtain ⟨k1, k2⟩ := mk_t.2.1.mp c
      obtain ⟨a, m, e1, e2, h3, h4, h5, _⟩ := h.cons
      have ea : (I 29 0 28).toNatClampNeg = a := by rw [e1, nI_clamp (by omega)]
      have hva : vp_in (I 29 0 28) 160 := by rw [e1]; exact vp_in_nI (by omega) (by decide)
      have h6 : I 50 0 a = nI (vlN t p (e - p)) := h5.2.2.2 c
      have hst : stM t n ((p, e) :: r) = if 1 ≤ vlN t p (e - p) ∧ vlN t p (e - p) ≤ 8191 then vlN t p (e - p) else 0 := by
        simp only [stM]
        unfold stR
        rw [if_pos k1]
      refine ⟨hva, fun c1 => ⟨hva, rfl, trivial, ?_⟩, fun c1 => ⟨rfl, trivial, ?_⟩⟩
      · have c1 : I 50 0 (I 29 0 28).toNatClampNeg ≤ nI 8191 := c1
        rw [ea, h6, nI_leI (by omega) (by decide)] at c1
        rw [← hQ]
        refine ⟨rfl, ?_⟩
        show some (vi (I 50 0 (I 29 0 28).toNatClampNeg)) = _
        rw [ea, h6, hR, hst]
        split
        · rfl
        · rw [show vlN t p (e - p) = 0 by omega]
      · have c1 : ¬ I 50 0 (I 29 0 28).toNatClampNeg ≤ nI 8191 := c1
        rw [ea, h6, nI_leI (by omega) (by decide)] at c1
        rw [← hQ]
        refine ⟨rfl, ?_⟩
        rw [hR, hst, if_neg (by omega)]
        rfl
/-- an event's letter that may stand here -/
def evM (t : Nat → Nat) (n ev : Nat) (but : Int32) (R : Toks) : Option Nat := match R with
  | [] => none
  | (p, e) :: _ => (match evO t n ev p e with
    | none => none
    | some x => if nI x = but then none else some x)
def frTk (I I1 : SI) : Prop := (∀ a b, a ≠ 29 → I1 a b = I a b) ∧ ∀ j, j ≠ 28 → j ≠ 29 → I1 29 0 j = I 29 0 j
theorem frTk.rf {I : SI} : frTk I I := ⟨fun _ _ _ => rfl, fun _ _ _ => rfl⟩
theorem frTk.tr {I I1 I2 : SI} (h : frTk I I1) (h1 : frTk I1 I2) : frTk I I2 := ⟨fun a b q => (h1.1 a b q).trans (h.1 a b q), fun j q1 q2 => (h1.2 j q1 q2).trans (h.2 j q1 q2)⟩
theorem frTk.u28 {I I1 : SI} {x : Int32} (h : frTk I I1) : frTk I (uI I1 29 0 28 x) := ⟨fun a b q => by rw [uI_tt q]; exact h.1 a b q, fun j q1 q2 => by rw [uI_j q1]; exact h.2 j q1 q2⟩
theorem frTk.u29 {I I1 : SI} {x : Int32} (h : frTk I I1) : frTk I (uI I1 29 0 29 x) := ⟨fun a b q => by rw [uI_tt q]; exact h.1 a b q, fun j q1 q2 => by rw [uI_j q2]; exact h.2 j q1 q2⟩
theorem ATT.u29 {I : SI} {t : Nat → Nat} {n : Nat} {R : Toks} {x : Int32} (h : ATT I t n R) : ATT (uI I 29 0 29 x) t n R := h.k (uI_j (by decide)) (uI_j (by decide)) (uI_tt (by decide)) (uI_tt (by decide)) (uI_tt (by decide)) (uI_tt (by decide))
def TAK (I : SI) (t : Nat → Nat) (n ev : Nat) (but : Int32) (R : Toks) (b : Bool) (I1 : SI) : Prop := match evM t n ev but R with
  | none => b = false ∧ I1 = I
  | some x => b = true ∧ I1 29 0 29 = nI x ∧ ATT I1 t n R.tail ∧ frTk I I1
set_option maxRecDepth 10000 in
theorem m_takesEvent (I : SI) (J : SJ) (n ev : Nat) (but : Int32) (t : Nat → Nat) (R : Toks) (h : ATT I t n R) (hX : MTX I n t) (hev : ev ≤ 5) (d : Nat) (hd : 0 < d) : Tri d YX9_takesEvent 117 [vr 29 0, vi but, vi (nI ev)] (S0 I J) (fun r σ => ∃ b I1, r = some (vi (bi b)) ∧ σ = S0 I1 J ∧ TAK I t n ev but R b I1) := by
  refine Tri.of (M := MX9_takesEvent) k_X9_takesEvent ⟨Nat.le_refl _, Nat.le_refl _⟩ (Nat.le_of_ble_eq_true rfl) ?_
  generalize hQ : (fun (r : Option AV) (σ : ST) => ∃ b I1, r = some (vi (bi b)) ∧ σ = S0 I1 J ∧ TAK I t n ev but R b I1) = Q
  have sno : evM t n ev but R = none → Sat none MX9_takesEvent d 117 Q 50 [some (vr 29 0), some (vi but), some (vi (nI ev)), none] [vi 0] (S0 I J) := fun hno => by
    refine Sat.of k_X9_takesEvent [] 60 ?_
    refine ⟨fun _ => ⟨rfl, Or.inl rfl, ?_⟩, fun q => absurd rfl q⟩
    rw [← hQ]
    refine ⟨false, I, rfl, rfl, ?_⟩
    unfold TAK
    rw [hno]
    exact ⟨rfl, rfl⟩
  refine Sat.of k_X9_takesEvent [50] 60 ?_
  refine ⟨0, 117, hd, Nat.le_refl _, (m_isKind I J n 2 t R h (by decide) 0).mono ?_⟩
  rintro r σ ⟨rfl, rfl⟩
  cases R with
  | nil => exact ⟨fun _ => sno rfl, fun q => absurd rfl q⟩
  | cons x rr =>
    obtain ⟨p, e⟩ := x
    obtain ⟨a, m, e1, e2, h3, h4, h5, h7, h8, h9⟩ := h.cons
    have ea : (I 29 0 28).toNatClampNeg = a := by rw [e1, nI_clamp (by omega)]
    have h6 : I 49 0 a = nI (e - p) := h5.2.1
    have hle := tkE_le (t := t) h7
    rw [← h8] at hle
    have hgt := tkE_gt (t := t) h7
    rw [← h8] at hgt
    have hn := hX.2.1
    have elt : ltN t p e 0 = t p := by unfold ltN; rw [if_pos (by omega), Nat.add_zero]
    have LT : Tri 0 YX9_letterAt 117 [vr 29 0, vi (nI 0)] (S0 I J) (fun v σ => σ = S0 I J ∧ v = some (vi (nI (t p)))) := (m_letterAt I J n p e 0 t rr h hX (by decide) 0).mono (by rintro v σ ⟨rfl, rfl⟩; exact ⟨rfl, by rw [elt]⟩)
    refine ⟨fun c => sno ?_, fun c => ?_⟩
    · have c : ¬ mkd t n p e = 2 := of_decide_eq_false (bi_f c)
      rw [mk_t.1] at c
      simp only [evM]
      unfold evO
      rw [if_neg (fun q => c q.1)]
    · have c : mkd t n p e = 2 := of_decide_eq_true (bi_t c)
      rw [mk_t.1] at c
      have h97 := tok_let h7 c (Nat.le_refl _) (by rw [← h8]; exact hgt)
      refine ⟨?_, fun c1 => sno ?_, fun c1 => ⟨0, 117, hd, Nat.le_refl _, LT.mono ?_⟩⟩
      · show vp_in (I 29 0 28) 160
        rw [e1]
        exact vp_in_nI (by omega) (by decide)
      · have c1 : ¬ I 49 0 (I 29 0 28).toNatClampNeg = nI 1 := c1
        rw [ea, h6] at c1
        simp only [evM]
        unfold evO
        rw [if_neg (fun q => c1 (by rw [q.2.1]))]
      · have c1 : I 49 0 (I 29 0 28).toNatClampNeg = nI 1 := c1
        rw [ea, h6, nI_eq (by omega) (by decide)] at c1
        have esub : nI (t p) - 97 = nI (t p - 97) := by rw [show (97 : Int32) = nI 97 from rfl, pk_sub (by omega)]
        rintro v σ ⟨rfl, rfl⟩
        refine ⟨fun c2 => sno ?_, fun c2 => ⟨0, 117, hd, Nat.le_refl _, LT.mono ?_⟩⟩
        · have c2 : nI ev ≤ nI (t p) - 97 := c2
          rw [esub, nI_leI (by omega) (by omega)] at c2
          simp only [evM]
          unfold evO
          rw [if_neg (fun q => by omega)]
        · have c2 : ¬ nI ev ≤ nI (t p) - 97 := c2
          rw [esub, nI_leI (by omega) (by omega)] at c2
          have hev1 : evO t n ev p e = some (t p - 97) := by
            unfold evO
            rw [if_pos ⟨c, c1, by omega⟩]
          rintro v σ ⟨rfl, rfl⟩
          refine ⟨fun c3 => sno ?_, fun c3 => ?_⟩
          · have c3 : nI (t p) - 97 = but := c3
            rw [esub] at c3
            simp only [evM, hev1]
            rw [if_pos c3]
          · have c3 : ¬ nI (t p) - 97 = but := c3
            rw [esub] at c3
            refine Sat.of (pc := 50) k_X9_takesEvent [] 60 ?_
            refine ⟨fun q => absurd q (by decide), fun _ => ⟨0, 117, hd, Nat.le_refl _, LT.mono ?_⟩⟩
            rintro v σ ⟨rfl, rfl⟩
            refine ⟨rfl, Or.inr rfl, ?_⟩
            rw [← hQ]
            refine ⟨true, uI (uI I 29 0 29 (nI (t p - 97))) 29 0 28 (nI (a + 1)), rfl, ?_, ?_⟩
            · show (uI (uI I 29 0 29 (nI (t p) - 97)) 29 0 28 (uI I 29 0 29 (nI (t p) - 97) 29 0 28 + 1), J, 117, aT) = _
              rw [esub, uI_j (by decide), e1, nI_1]
            · unfold TAK
              have : evM t n ev but ((p, e) :: rr) = some (t p - 97) := by
                simp only [evM, hev1]
                rw [if_neg c3]
              rw [this]
              refine ⟨rfl, by rw [uI_j (by decide), uI_at], ?_, (frTk.rf.u29).u28⟩
              have h10 : ATT (uI (uI I 29 0 28 (nI (a + 1))) 29 0 29 (nI (t p - 97))) t n rr := h9.u29
              exact h10.k (by rw [uI_j (by decide), uI_j (by decide), uI_j (by decide), uI_j (by decide)]) (by rw [uI_at, uI_j (by decide), uI_at]) (by rw [uI_tt (by decide), uI_tt (by decide), uI_tt (by decide), uI_tt (by decide)]) (by rw [uI_tt (by decide), uI_tt (by decide), uI_tt (by decide), uI_tt (by decide)]) (by rw [uI_tt (by decide), uI_tt (by decide), uI_tt (by decide), uI_tt (by decide)]) (by rw [uI_tt (by decide), uI_tt (by decide), uI_tt (by decide), uI_tt (by decide)])
def plc (n : Nat) (R : Toks) : Nat := match R with
  | [] => n
  | (q, _) :: _ => q
/-- how many events a number tells -/
def myM (t : Nat → Nat) (n : Nat) (R : Toks) : Nat := match R with
  | [] => 0
  | (q, f) :: _ => if kAt t n q = 2 ∧ 2 ≤ vlN t q (f - q) ∧ vlN t q (f - q) ≤ 5 then vlN t q (f - q) else 0
set_option maxRecDepth 10000 in
theorem m_manyTold (I : SI) (J : SJ) (n : Nat) (t : Nat → Nat) (R : Toks) (h : ATT I t n R) (d : Nat) (hd : 0 < d) : Tri d YX9_manyTold 117 [vr 29 0] (S0 I J) (fun r σ => r = some (vi (nI (myM t n R))) ∧ ∃ I1, σ = S0 I1 J ∧ ATT I1 t n (if 0 < myM t n R then R.tail else R) ∧ frTk I I1) := by
  refine Tri.of (M := MX9_manyTold) k_X9_manyTold ⟨Nat.le_refl _, Nat.le_refl _⟩ (Nat.le_of_ble_eq_true rfl) ?_
  generalize hQ : (fun (r : Option AV) (σ : ST) => r = some (vi (nI (myM t n R))) ∧ ∃ I1, σ = S0 I1 J ∧ ATT I1 t n (if 0 < myM t n R then R.tail else R) ∧ frTk I I1) = Q
  have hat : ∃ a, I 29 0 28 = nI a := by
    obtain ⟨T, a, _, _, _, q3, _⟩ := h
    exact ⟨a, q3⟩
  obtain ⟨a0, ha0⟩ := hat
  have sno : myM t n R = 0 → Sat none MX9_manyTold d 117 Q 38 [some (vr 29 0), none] [vi 0] (S0 I J) := fun hno => by
    refine Sat.of k_X9_manyTold [] 60 ?_
    refine ⟨fun _ => ⟨rfl, trivial, ?_⟩, fun q => absurd (by decide) q⟩
    rw [← hQ, hno]
    refine ⟨rfl, I, ?_, by rw [if_neg (by decide)]; exact h, frTk.rf⟩
    show (uI I 29 0 28 (I 29 0 28 + nI 0), J, 117, aT) = _
    rw [ha0, nI_add, Nat.add_zero, ← ha0, uI_id]
  refine Sat.of k_X9_manyTold [38] 60 ?_
  refine ⟨0, 117, hd, Nat.le_refl _, (m_isKind I J n 1 t R h (by decide) 0).mono ?_⟩
  rintro r σ ⟨rfl, rfl⟩
  cases R with
  | nil => exact ⟨fun _ => sno rfl, fun q => absurd rfl q⟩
  | cons x rr =>
    obtain ⟨p, e⟩ := x
    obtain ⟨a, m, e1, e2, h3, h4, h5, h7, h8, h9⟩ := h.cons
    have ea : (I 29 0 28).toNatClampNeg = a := by rw [e1, nI_clamp (by omega)]
    have hva : vp_in (I 29 0 28) 160 := by rw [e1]; exact vp_in_nI (by omega) (by decide)
    refine ⟨fun c => sno ?_, fun c => ?_⟩
    · have c : ¬ mkd t n p e = 1 := of_decide_eq_false (bi_f c)
      rw [mk_t.2.1] at c
      simp only [myM]
      rw [if_neg (fun q => c ⟨q.1, by omega⟩)]
    · have c : mkd t n p e = 1 := of_decide_eq_true (bi_t c)
      have h6 : I 50 0 a = nI (vlN t p (e - p)) := h5.2.2.2 c
      obtain ⟨k1, k2⟩ := mk_t.2.1.mp c
      refine ⟨hva, 0, 117, hd, Nat.le_refl _, (m_in I J (nI (vlN t p (e - p))) (nI 2) (nI 5) 0).to ?_ rfl ?_⟩
      · show [vi (I 50 0 (I 29 0 28).toNatClampNeg), vi 2, vi 5] = _
        rw [ea, h6]
        rfl
      · have hin : inB (nI (vlN t p (e - p))) (nI 2) (nI 5) = decide (2 ≤ vlN t p (e - p) ∧ vlN t p (e - p) ≤ 5) := by
          unfold inB
          congr 1
          rw [nI_leI (by decide) (by omega), nI_leI (by omega) (by decide)]
        rintro r σ ⟨rfl, rfl⟩
        rw [hin]
        refine ⟨fun c1 => sno ?_, fun c1 => ⟨hva, ?_⟩⟩
        · have c1 := of_decide_eq_false (bi_f c1)
          simp only [myM]
          rw [if_neg (fun q => c1 q.2)]
        · have c1 := of_decide_eq_true (bi_t c1)
          have hm : myM t n ((p, e) :: rr) = vlN t p (e - p) := by
            simp only [myM]
            rw [if_pos ⟨k1, c1⟩]
          have goal : Sat none MX9_manyTold d 117 Q 38 [some (vr 29 0), none] [vi (nI (vlN t p (e - p)))] (S0 I J) := by
            refine Sat.of k_X9_manyTold [] 60 ?_
            refine ⟨fun q => ?_, fun _ => ⟨rfl, trivial, ?_⟩⟩
            · have q : nI (vlN t p (e - p)) ≤ nI 0 := q
              rw [nI_leI (by omega) (by decide)] at q
              omega
            · rw [← hQ, hm]
              refine ⟨rfl, uI I 29 0 28 (nI (a + 1)), ?_, by rw [if_pos (by omega)]; exact h9, frTk.rf.u28⟩
              show (uI I 29 0 28 (I 29 0 28 + 1), J, 117, aT) = _
              rw [e1, nI_1]
          show Sat none MX9_manyTold d 117 Q 38 _ [vi (I 50 0 (I 29 0 28).toNatClampNeg)] (S0 I J)
          rw [ea, h6]
          exact goal
