/-! The reader: observations, items, the text -/
def obsR (t : Nat → Nat) (n ev : Nat) (L : List Ob) (p e : Nat) (r : Toks) : (Nat × List Ob × Toks) ⊕ Nat := match evO t n ev p e with
  | none => .inr p
  | some x => if 8 ≤ L.length then .inr p else (match r with
    | [] => .inr n
    | (q, f) :: r2 => if 1 ≤ stR t n q f ∧ stR t n q f ≤ 8191 then (match r2 with
        | [] => .inr n
        | (u, v) :: r3 => (match evO t n ev u v with
          | none => .inr u
          | some y => if y = x then .inr u else .inl (ev, L ++ [(x, stR t n q f, y)], r3)))
      else .inr q)
theorem itm_cons {t : Nat → Nat} {n ev p e : Nat} {L : List Ob} {r : Toks} {first : Bool} (h : isW t n 0 p e = false) : itm t n first ev L ((p, e) :: r) = obsR t n ev L p e r := by
  simp only [itm]
  rw [if_neg (by rw [h]; decide)]
  rfl
theorem evO_some {t : Nat → Nat} {n ev p e x : Nat} (h : evO t n ev p e = some x) : kAt t n p = 1 ∧ x < ev ∨ x = 0 ∧ ev = 0 ∧ kAt t n p = 1 := by
  unfold evO at h
  split at h
  · rename_i q
    cases h
    omega
  · cases h
theorem evO_end {t : Nat → Nat} {n ev p e : Nat} (h : kAt t n p = 0) : evO t n ev p e = none := by
  unfold evO
  rw [if_neg (by omega)]
theorem isW_end {t : Nat → Nat} {n w p e : Nat} (h : kAt t n p = 0) : isW t n w p e = false := by
  unfold isW
  rw [decide_eq_false (by omega), Bool.false_and, Bool.false_and]
theorem stR_end {t : Nat → Nat} {n p e : Nat} (h : kAt t n p = 0) : stR t n p e = 0 := by
  unfold stR wdS
  rw [if_neg (by omega), isW_end h, isW_end h, isW_end h, isW_end h, isW_end h, isW_end h, isW_end h, isW_end h]
  rfl
theorem stR_lt {t : Nat → Nat} {n p e : Nat} : stR t n p e ≤ 10000 := by
  unfold stR wdS
  split
  · exact vlN_le
  · repeat' split
    all_goals decide
theorem nI_m9 {x : Nat} (h : x < 2 ^ 31) : ¬ nI x = (-9 : Int32) := fun e => by
  have h1 : (0 : Int32) ≤ nI x := nI_le (a := 0) (b := x) (by omega) h
  rw [e] at h1
  exact absurd h1 (by decide)
set_option maxRecDepth 10000 in
theorem c_readObservation (I : SI) (J : SJ) (n p e ev : Nat) (L : List Ob) (t : Nat → Nat) (h : TX I n t) (hB : BK I 0 ev L) (hT : TKS I n t p e) (d : Nat) (hd : 5 < d) : Tri d YX6_readObservation 117 [vr 20 0] (S0 I J) (fun r σ => ∃ b I1, r = some (vi (bi b)) ∧ σ = S0 I1 J ∧ frE I I1 ∧ RES I1 n t (obsR t n ev L p e (TL t n e)) b) := by
  refine Tri.of (M := MX6_readObservation) k_X6_readObservation ⟨Nat.le_refl _, Nat.le_refl _⟩ (Nat.le_of_ble_eq_true rfl) ?_
  have hL8 := hB.2.2.1
  have h2 := hB.2.2.2.1
  have h5 := hB.2.2.2.2.1
  have hpl : I 20 0 3 = nI p := hT.1.1
  refine Sat.of k_X6_readObservation [] 60 ?_
  refine ⟨1, 117, by omega, Nat.le_refl _, (c_eventOfToken I J n p e ev L t h hT hB 1 (by decide)).mono ?_⟩
  rintro r σ ⟨rfl, rfl⟩
  cases ho : evO t n ev p e with
  | none =>
    refine ⟨fun c => ⟨rfl, Or.inl rfl, false, I, rfl, rfl, frE.rf, ?_⟩, fun c => absurd rfl c⟩
    unfold obsR
    rw [ho]
    exact ⟨rfl, hpl⟩
  | some x =>
    have hx : x < 5 := by rcases evO_some ho with q | q <;> omega
    have hxe : x < ev := by rcases evO_some ho with q | q <;> omega
    refine ⟨fun c => absurd c (nI_m9 (by omega)), fun c => ⟨fun c1 => ?_, fun c1 => ⟨rfl, Or.inl rfl, false, I, rfl, rfl, frE.rf, ?_⟩⟩⟩
    · have c1 : I 3 0 3 < nI 8 := c1
      rw [hB.2.1, nI_ltI (by omega) (by decide)] at c1
      refine ⟨2, 117, by omega, Nat.le_refl _, (c_readToken I J n e t h hT.1.2.1 hT.2.2.2 2 (by decide)).mono ?_⟩
      rintro r σ ⟨rfl, I1, rfl, f1, f2⟩
      obtain ⟨q, f, hT1, hc⟩ := f2.now hT.2.2.2
      have h1 := h.fr f1
      refine ⟨5, 117, hd, Nat.le_refl _, (c_setOfToken I1 J n q f t h1 hT1 5 (by decide)).mono ?_⟩
      rintro r σ ⟨rfl, rfl⟩
      have hst := stR_lt (t := t) (n := n) (p := q) (e := f)
      refine ⟨0, 117, by omega, Nat.le_refl _, (told_t (x := stR t n q f) (by omega) I1 J 0).mono ?_⟩
      rintro r σ ⟨rfl, rfl⟩
      have e1 : obsR t n ev L p e (TL t n e) = (match TL t n e with
        | [] => .inr n
        | (q, f) :: r2 => if 1 ≤ stR t n q f ∧ stR t n q f ≤ 8191 then (match r2 with
            | [] => .inr n
            | (u, v) :: r3 => (match evO t n ev u v with
              | none => .inr u
              | some y => if y = x then .inr u else .inl (ev, L ++ [(x, stR t n q f, y)], r3)))
          else .inr q) := by
        unfold obsR
        rw [ho]
        simp only
        rw [if_neg (by omega)]
      rw [e1]
      refine ⟨fun c2 => ?_, fun c2 => ⟨rfl, Or.inl rfl, false, I1, rfl, rfl, f1.E, ?_⟩⟩
      · have c2 := of_decide_eq_true (bi_t c2)
        rcases hc with ⟨g1, g2, g3⟩ | ⟨g1, g2, g3⟩
        · rw [g2]
          simp only
          rw [if_pos c2]
          refine ⟨2, 117, by omega, Nat.le_refl _, (c_readToken I1 J n f t h1 hT1.1.2.1 hT1.2.2.2 2 (by decide)).mono ?_⟩
          rintro r σ ⟨rfl, I2, rfl, m1, m2⟩
          obtain ⟨u, v, hT2, hc2⟩ := m2.now hT1.2.2.2
          have h3 := h1.fr m1
          have hB2 := (hB.D f1).D m1
          refine ⟨1, 117, by omega, Nat.le_refl _, (c_eventOfToken I2 J n u v ev L t h3 hT2 hB2 1 (by decide)).mono ?_⟩
          rintro r σ ⟨rfl, rfl⟩
          cases ho2 : evO t n ev u v with
          | none =>
            refine ⟨fun c3 => ⟨rfl, Or.inl rfl, false, I2, rfl, rfl, (f1.tr m1).E, ?_⟩, fun c3 => absurd rfl c3⟩
            rcases hc2 with ⟨j1, j2, j3⟩ | ⟨j1, j2, j3⟩
            · rw [j2]
              simp only [ho2]
              exact ⟨rfl, hT2.1.1⟩
            · rw [j2]
              exact ⟨rfl, by rw [hT2.1.1, j1]⟩
          | some y =>
            have hy : y < 5 := by rcases evO_some ho2 with q | q <;> omega
            rcases hc2 with ⟨j1, j2, j3⟩ | ⟨j1, j2, j3⟩
            · rw [j2]
              simp only [ho2]
              refine ⟨fun c3 => absurd c3 (nI_m9 (by omega)), fun c3 => ⟨fun c4 => ?_, fun c4 => ⟨rfl, Or.inl rfl, false, I2, rfl, rfl, (f1.tr m1).E, ?_⟩⟩⟩
              · have c4 : ¬ nI y = nI x := c4
                rw [if_neg (fun q => c4 (by rw [q]))]
                refine ⟨0, 117, by omega, Nat.le_refl _, (c_append I2 J 0 ev L x (stR t n q f) y hB2 c1 0).mono ?_⟩
                rintro r σ ⟨rfl, I3, rfl, s1, s2⟩
                exact ⟨rfl, Or.inr rfl, true, I3, rfl, rfl, (f1.tr m1).E.tr s2.E, rfl, s1, v, hT2.2.2.2, by rw [s2 20 0 (by omega)]; exact hT2.1.2.1, rfl⟩
              · have c4 : nI y = nI x := c4
                have e4 := (nI_eq (by omega) (by omega)).mp c4
                rw [if_pos e4]
                exact ⟨rfl, hT2.1.1⟩
            · rw [evO_end j3] at ho2
              cases ho2
        · rw [stR_end g3] at c2
          omega
      · have c2 := of_decide_eq_false (bi_f c2)
        rcases hc with ⟨g1, g2, g3⟩ | ⟨g1, g2, g3⟩
        · rw [g2]
          simp only
          rw [if_neg c2]
          exact ⟨rfl, hT1.1.1⟩
        · rw [g2]
          exact ⟨rfl, by rw [hT1.1.1, g1]⟩
    · have c1 : ¬ I 3 0 3 < nI 8 := c1
      rw [hB.2.1, nI_ltI (by omega) (by decide)] at c1
      unfold obsR
      rw [ho]
      simp only
      rw [if_pos (by omega)]
      exact ⟨rfl, hpl⟩
