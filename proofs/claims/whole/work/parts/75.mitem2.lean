/-! The model: an item -/
def frIt (I I1 : SI) : Prop := (∀ a b, a ≠ 29 → a ≠ 31 → I1 a b = I a b) ∧ ∀ j, j ≠ 28 → j ≠ 29 → I1 29 0 j = I 29 0 j
theorem frIt.rf {I : SI} : frIt I I := ⟨fun _ _ _ _ => rfl, fun _ _ _ => rfl⟩
theorem frIt.tr {I I1 I2 : SI} (h : frIt I I1) (h1 : frIt I1 I2) : frIt I I2 := ⟨fun a b q q2 => (h1.1 a b q q2).trans (h.1 a b q q2), fun j q1 q2 => (h1.2 j q1 q2).trans (h.2 j q1 q2)⟩
theorem frTk.I {I I1 : SI} (h : frTk I I1) : frIt I I1 := ⟨fun a b q _ => h.1 a b q, h.2⟩
theorem frIt.u {I I1 : SI} {j : Nat} {x : Int32} (h : frIt I I1) : frIt I (uI I1 31 0 j x) := ⟨fun a b q q2 => by rw [uI_tt q2]; exact h.1 a b q q2, fun i q1 q2 => by rw [uI_t (by decide)]; exact h.2 i q1 q2⟩
theorem ATT.u31 {I : SI} {t : Nat → Nat} {n j : Nat} {R : Toks} {x : Int32} (h : ATT I t n R) : ATT (uI I 31 0 j x) t n R := h.k (uI_t (by decide)) (uI_t (by decide)) (uI_tt (by decide)) (uI_tt (by decide)) (uI_tt (by decide)) (uI_tt (by decide))
def ITM (I1 : SI) (t : Nat → Nat) (n ev : Nat) (X : (Nat × List Ob × Toks) ⊕ Nat) (b : Bool) : Prop := match X with
  | .inl (ev1, L1, R1) => b = true ∧ ev1 = ev ∧ RW I1 31 0 L1 ∧ ATT I1 t n R1
  | .inr q => b = false ∧ ∃ R1, ATT I1 t n R1 ∧ plc n R1 = q
def ob3 (t : Nat → Nat) (n ev : Nat) (L : List Ob) (x w : Nat) (r2 : Toks) : (Nat × List Ob × Toks) ⊕ Nat := match r2 with
  | [] => .inr n
  | (u, v) :: r3 => (match evO t n ev u v with
    | none => .inr u
    | some y => if y = x then .inr u else .inl (ev, L ++ [(x, w, y)], r3))
def ob2 (t : Nat → Nat) (n ev : Nat) (L : List Ob) (x : Nat) (r : Toks) : (Nat × List Ob × Toks) ⊕ Nat := match r with
  | [] => .inr n
  | (q, f) :: r2 => if 1 ≤ stR t n q f ∧ stR t n q f ≤ 8191 then ob3 t n ev L x (stR t n q f) r2 else .inr q
theorem ob_none {t : Nat → Nat} {n ev p e : Nat} {L : List Ob} {r : Toks} (h : evO t n ev p e = none) : obsR t n ev L p e r = .inr p := by
  unfold obsR
  rw [h]
theorem ob_full {t : Nat → Nat} {n ev p e : Nat} {L : List Ob} {r : Toks} (h : 8 ≤ L.length) : obsR t n ev L p e r = .inr p := by
  unfold obsR
  cases evO t n ev p e with
  | none => rfl
  | some x =>
    show (if 8 ≤ L.length then _ else _) = _
    rw [if_pos h]
theorem ob_some {t : Nat → Nat} {n ev p e x : Nat} {L : List Ob} {r : Toks} (h : evO t n ev p e = some x) (hl : L.length < 8) : obsR t n ev L p e r = ob2 t n ev L x r := by
  unfold obsR
  rw [h]
  show (if 8 ≤ L.length then _ else _) = _
  rw [if_neg (by omega)]
  cases r with
  | nil => rfl
  | cons y r2 =>
    obtain ⟨q, f⟩ := y
    simp only [ob2]
    split
    · cases r2 with
      | nil => rfl
      | cons z r3 => rfl
    · rfl
theorem evM_9 {t : Nat → Nat} {n ev p e : Nat} {r : Toks} (hev : ev ≤ 5) : evM t n ev (-9) ((p, e) :: r) = evO t n ev p e := by
  simp only [evM]
  cases h : evO t n ev p e with
  | none => rfl
  | some x =>
    have := evO_some h
    show (if nI x = -9 then none else some x) = some x
    rw [if_neg (nI_m9 (by omega))]
set_option maxRecDepth 10000 in
theorem m_item (I : SI) (J : SJ) (n ev p e : Nat) (t : Nat → Nat) (L : List Ob) (r : Toks) (h : ATT I t n ((p, e) :: r)) (hX : MTX I n t) (hR : RW I 31 0 L) (h2 : 2 ≤ ev) (hev : ev ≤ 5) (d : Nat) (hd : 2 < d) : Tri d YX9_item 117 [vr 29 0, vi (nI ev)] (S0 I J) (fun v σ => ∃ b I1, v = some (vi (bi b)) ∧ σ = S0 I1 J ∧ ITM I1 t n ev (obsR t n ev L p e r) b ∧ frIt I I1) := by
  refine Tri.of (M := MX9_item) k_X9_item ⟨Nat.le_refl _, Nat.le_refl _⟩ (Nat.le_of_ble_eq_true rfl) ?_
  have h8 := hR.2.1
  generalize hQ : (fun (v : Option AV) (σ : ST) => ∃ b I1, v = some (vi (bi b)) ∧ σ = S0 I1 J ∧ ITM I1 t n ev (obsR t n ev L p e r) b ∧ frIt I I1) = Q
  have e0 : I 31 0 (nI 0).toNatClampNeg = nI L.length := by rw [nI_clamp (by decide)]; exact hR.1
  have no : ∀ (q : Nat) (R1 : Toks) (I1 : SI), obsR t n ev L p e r = .inr q → ATT I1 t n R1 → plc n R1 = q → frIt I I1 → Q (some (vi 0)) (S0 I1 J) := fun q R1 I1 ho hA hp hf => by
    rw [← hQ]
    refine ⟨false, I1, rfl, rfl, ?_, hf⟩
    rw [ho]
    exact ⟨rfl, R1, hA, hp⟩
  have X1 : ∀ I1, frIt I I1 → MTX I1 n t := fun I1 f => hX.k (f.2 22 (by decide) (by decide)) (f.1 46 0 (by decide) (by decide))
  generalize hm : 1 + 3 * L.length = m
  have em : (nI m).toNatClampNeg = m := nI_clamp (by omega)
  have em1 : nI m + 1 = nI (m + 1) := nI_1 m
  have em2 : nI m + 2 = nI (m + 2) := by rw [show (2 : Int32) = nI 2 from rfl, nI_add]
  have ek : (1 : Int32) + 3 * I 31 0 (nI 0).toNatClampNeg = nI m := by rw [e0, k3, hm]
  -- the last of it
  have s90 : ∀ (x w y : Nat) (I3 : SI) (r3 : Toks), obsR t n ev L p e r = .inl (ev, L ++ [(x, w, y)], r3) → L.length < 8 → ATT I3 t n r3 → frIt I I3 → I3 29 0 29 = nI y → I3 31 0 m = nI x → I3 31 0 (m + 1) = nI w → (∀ z, z < m → I3 31 0 z = I 31 0 z) → Sat none MX9_item d 117 Q 90 [some (vr 29 0), some (vi (nI ev)), some (vi (nI m)), none] [] (S0 I3 J) := fun x w y I3 r3 ho hl hA hf g1 g2 g3 g4 => by
    refine Sat.of k_X9_item [] 60 ?_
    have hst : uI (uI I3 31 0 (nI m + 2).toNatClampNeg (I3 29 0 29)) 31 0 (nI 0).toNatClampNeg (uI I3 31 0 (nI m + 2).toNatClampNeg (I3 29 0 29) 31 0 (nI 0).toNatClampNeg + 1) = uI (uI I3 31 0 (m + 2) (nI y)) 31 0 0 (nI (L.length + 1)) := by
      rw [em2, g1, nI_clamp (show m + 2 < 2 ^ 31 by omega), nI_clamp (show 0 < 2 ^ 31 by decide), uI_j (show 0 ≠ m + 2 by omega), g4 0 (by omega), hR.1, nI_1]
    refine ⟨?_, vp_in_nI (n := 0) (by decide) (by decide), vp_in_nI (n := 0) (by decide) (by decide), rfl, Or.inr rfl, ?_⟩
    · show vp_in (nI m + 2) 25
      rw [em2]
      exact vp_in_nI (by omega) (by decide)
    · rw [← hQ]
      refine ⟨true, uI (uI I3 31 0 (m + 2) (nI y)) 31 0 0 (nI (L.length + 1)), rfl, congrArg (fun z : SI => (z, J, 117, aT)) hst, ?_, (hf.u).u⟩
      rw [ho]
      refine ⟨rfl, rfl, ⟨?_, ?_, fun q hq => ?_⟩, (hA.u31).u31⟩
      · rw [uI_at, List.length_append]
        rfl
      · rw [List.length_append]
        show L.length + 1 ≤ 8
        omega
      · rw [List.length_append] at hq
        have hq : q < L.length + 1 := hq
        rw [nthD_snoc]
        by_cases e1 : q < L.length
        · rw [if_pos e1, uI_j (by omega), uI_j (by omega), uI_j (by omega), uI_j (by omega), uI_j (by omega), uI_j (by omega), g4 _ (by omega), g4 _ (by omega), g4 _ (by omega)]
          exact hR.2.2 q e1
        · have e2 : q = L.length := by omega
          subst e2
          rw [if_neg (by omega), if_pos rfl, show 0 + 1 + 3 * L.length = m by omega, show 0 + 2 + 3 * L.length = m + 1 by omega, show 0 + 3 + 3 * L.length = m + 2 by omega]
          refine ⟨?_, ?_, ?_⟩
          · rw [uI_j (by omega), uI_j (by omega)]
            exact g2
          · rw [uI_j (by omega), uI_j (by omega)]
            exact g3
          · rw [uI_j (by omega), uI_at]
  have s11 : Sat none MX9_item d 117 Q 11 [some (vr 29 0), some (vi (nI ev)), some (vi (nI m)), none] [] (S0 I J) := by
    refine Sat.of k_X9_item [90] 60 ?_
    refine ⟨vp_in_nI (n := 0) (by decide) (by decide), fun c => ⟨rfl, Or.inl rfl, ?_⟩, fun c => ⟨1, 117, by omega, Nat.le_refl _, (m_takesEvent I J n ev (-9) t ((p, e) :: r) h hX hev 1 (by decide)).mono ?_⟩⟩
    · have c : I 31 0 (nI 0).toNatClampNeg = nI 8 := c
      rw [e0, nI_eq (by omega) (by decide)] at c
      exact no p ((p, e) :: r) I (ob_full (by omega)) h rfl frIt.rf
    · have c : ¬ I 31 0 (nI 0).toNatClampNeg = nI 8 := c
      rw [e0] at c
      have hl : L.length < 8 := by
        rcases Nat.lt_or_ge L.length 8 with z | z
        · exact z
        · exact absurd (by rw [show L.length = 8 by omega]) c
      rintro v σ ⟨b, I1, rfl, rfl, hT⟩
      unfold TAK at hT
      rw [evM_9 hev] at hT
      cases hx : evO t n ev p e with
      | none =>
        rw [hx] at hT
        obtain ⟨rfl, rfl⟩ := hT
        refine ⟨fun q => absurd rfl q, fun _ => ⟨rfl, Or.inl rfl, no p ((p, e) :: r) I1 (ob_none hx) h rfl frIt.rf⟩⟩
      | some x =>
        rw [hx] at hT
        obtain ⟨rfl, t1, t2, t3⟩ := hT
        have hx5 : x < 5 := by
          have := evO_lt hx h2
          omega
        have ho : obsR t n ev L p e r = ob2 t n ev L x r := ob_some hx hl
        have t2 : ATT I1 t n r := t2
        refine ⟨fun _ => ⟨vp_in_nI (by omega) (by decide), 2, 117, hd, Nat.le_refl _, (m_setTold (uI I1 31 0 m (nI x)) J n t r t2.u31 (X1 _ t3.I.u) 2 (by decide)).to rfl ?_ ?_⟩, fun q => absurd q (by decide)⟩
        · show (uI I1 31 0 (nI m).toNatClampNeg (I1 29 0 29), J, 117, aT) = _
          rw [em, t1]
        · rintro v σ ⟨rfl, rfl⟩
          have f2 : frIt I (uI I1 31 0 m (nI x)) := t3.I.u
          refine ⟨fun c1 => ?_, fun c1 => ⟨rfl, Or.inl rfl, ?_⟩⟩
          · have c1 : ¬ nI (stM t n r) = nI 0 := c1
            cases r with
            | nil => exact absurd rfl c1
            | cons y r2 =>
              obtain ⟨q, f⟩ := y
              have hst : 1 ≤ stR t n q f ∧ stR t n q f ≤ 8191 := by
                refine Classical.not_not.mp (fun z => c1 ?_)
                simp only [stM]
                rw [if_neg z]
              have est : stM t n ((q, f) :: r2) = stR t n q f := by
                simp only [stM]
                rw [if_pos hst]
              rw [est]
              have ho : obsR t n ev L p e ((q, f) :: r2) = ob3 t n ev L x (stR t n q f) r2 := by
                rw [ho]
                simp only [ob2]
                rw [if_pos hst]
              obtain ⟨a, mm, a1, a2, a3, a4, a5, a6, a7, a8⟩ := (t2.u31 (j := m) (x := nI x)).cons
              generalize hI3 : uI (uI (uI I1 31 0 m (nI x)) 31 0 (m + 1) (nI (stR t n q f))) 29 0 28 (nI (a + 1)) = I3
              have hst3 : uI (uI (uI I1 31 0 m (nI x)) 31 0 (nI m + 1).toNatClampNeg (nI (stR t n q f))) 29 0 28 (uI (uI I1 31 0 m (nI x)) 31 0 (nI m + 1).toNatClampNeg (nI (stR t n q f)) 29 0 28 + 1) = I3 := by
                rw [em1, nI_clamp (show m + 1 < 2 ^ 31 by omega), uI_t (by decide), a1, nI_1, hI3]
              have f3 : frIt I I3 := by
                rw [← hI3]
                exact (f2.u).tr (frTk.rf.u28).I
              have A3 : ATT I3 t n r2 := by
                rw [← hI3]
                exact a8.k (by rw [uI_j (show 27 ≠ 28 by decide), uI_t (show 29 ≠ 31 by decide), uI_j (show 27 ≠ 28 by decide)]) (by rw [uI_at, uI_at]) (by rw [uI_tt (by decide), uI_tt (by decide), uI_tt (by decide), uI_tt (by decide), uI_tt (by decide)]) (by rw [uI_tt (by decide), uI_tt (by decide), uI_tt (by decide), uI_tt (by decide), uI_tt (by decide)]) (by rw [uI_tt (by decide), uI_tt (by decide), uI_tt (by decide), uI_tt (by decide), uI_tt (by decide)]) (by rw [uI_tt (by decide), uI_tt (by decide), uI_tt (by decide), uI_tt (by decide), uI_tt (by decide)])
              have d3 : I3 31 0 m = nI x := by rw [← hI3, uI_t (by decide), uI_j (by omega), uI_at]
              have d4 : I3 31 0 (m + 1) = nI (stR t n q f) := by rw [← hI3, uI_t (by decide), uI_at]
              have d5 : ∀ z, z < m → I3 31 0 z = I 31 0 z := fun z hz => by rw [← hI3, uI_t (by decide), uI_j (by omega), uI_j (by omega), t3.1 31 0 (by decide)]
              refine ⟨?_, ?_, 1, 117, by omega, Nat.le_refl _, (m_takesEvent I3 J n ev (nI x) t r2 A3 (X1 I3 f3) hev 1 (by decide)).to ?_ (congrArg (fun z : SI => (z, J, 117, aT)) hst3) ?_⟩
              · show vp_in (nI m + 1) 25
                rw [em1]
                exact vp_in_nI (by omega) (by decide)
              · exact vp_in_nI (by omega) (by decide)
              · refine Eq.trans (congrArg (fun z : SI => [vr 29 0, vi (z 31 0 (nI m).toNatClampNeg), vi (nI ev)]) hst3) ?_
                show [vr 29 0, vi (I3 31 0 (nI m).toNatClampNeg), vi (nI ev)] = _
                rw [em, d3]
              · rintro v σ ⟨b, I4, rfl, rfl, hT4⟩
                unfold TAK at hT4
                cases r2 with
                | nil =>
                  obtain ⟨rfl, rfl⟩ := hT4
                  exact ⟨fun z => absurd rfl z, fun _ => ⟨rfl, Or.inl rfl, no n [] I4 ho A3 rfl f3⟩⟩
                | cons yy r3 =>
                  obtain ⟨u, v⟩ := yy
                  simp only [evM] at hT4
                  cases hy : evO t n ev u v with
                  | none =>
                    rw [hy] at hT4
                    obtain ⟨rfl, rfl⟩ := hT4
                    refine ⟨fun z => absurd rfl z, fun _ => ⟨rfl, Or.inl rfl, no u ((u, v) :: r3) I4 ?_ A3 rfl f3⟩⟩
                    rw [ho]
                    simp only [ob3, hy]
                  | some y =>
                    rw [hy] at hT4
                    have hy5 : y < 5 := by
                      have := evO_lt hy h2
                      omega
                    by_cases hyx : y = x
                    · simp only [hyx, if_pos] at hT4
                      obtain ⟨rfl, rfl⟩ := hT4
                      refine ⟨fun z => absurd rfl z, fun _ => ⟨rfl, Or.inl rfl, no u ((u, v) :: r3) I4 ?_ A3 rfl f3⟩⟩
                      rw [ho]
                      simp only [ob3, hy]
                      rw [if_pos hyx]
                    · have hne : ¬ nI y = nI x := fun z => hyx ((nI_eq (by omega) (by omega)).mp z)
                      simp only [if_neg hne] at hT4
                      obtain ⟨rfl, z1, z2, z3⟩ := hT4
                      refine ⟨fun _ => ?_, fun z => absurd z (by decide)⟩
                      refine (s90 x (stR t n q f) y I4 r3 ?_ hl z2 (f3.tr z3.I) z1 (by rw [z3.1 31 0 (by decide)]; exact d3) (by rw [z3.1 31 0 (by decide)]; exact d4) (fun z hz => by rw [z3.1 31 0 (by decide)]; exact d5 z hz)).lw ⟨rfl, rfl, rfl, trivial⟩ rfl
                      rw [ho]
                      simp only [ob3, hy]
                      rw [if_neg hyx]
          · have c1 : nI (stM t n r) = nI 0 := c1
            cases r with
            | nil => exact no n [] _ ho t2.u31 rfl f2
            | cons y r2 =>
              obtain ⟨q, f⟩ := y
              refine no q ((q, f) :: r2) _ ?_ t2.u31 rfl f2
              rw [ho]
              simp only [ob2]
              rw [if_neg (fun hst => ?_)]
              simp only [stM] at c1
              rw [if_pos hst, nI_eq (by omega) (by decide)] at c1
              omega
  refine Sat.of k_X9_item [11] 60 ?_
  refine ⟨vp_in_nI (n := 0) (by decide) (by decide), s11.to ?_ rfl⟩
  show [some (vr 29 0), some (vi (nI ev)), some (vi ((1 : Int32) + 3 * I 31 0 (nI 0).toNatClampNeg)), none] = _
  rw [ek]
