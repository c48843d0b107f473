/-! The model: tells -/
def frTl (I I1 : SI) : Prop := (∀ a b, ¬ (a = 29 ∨ a = 31 ∨ (47 ≤ a ∧ a ≤ 50)) → I1 a b = I a b) ∧ ∀ j, j ≠ 27 → j ≠ 28 → j ≠ 29 → I1 29 0 j = I 29 0 j
theorem frTl.tr {I I1 I2 : SI} (h : frTl I I1) (h1 : frTl I1 I2) : frTl I I2 := ⟨fun a b q => (h1.1 a b q).trans (h.1 a b q), fun j q1 q2 q3 => (h1.2 j q1 q2 q3).trans (h.2 j q1 q2 q3)⟩
theorem frSp.L {I I1 : SI} (h : frSp I I1) : frTl I I1 := ⟨fun a b q => h.1 a b (by omega), fun j q _ _ => h.2 j q⟩
theorem frIt.L {I I1 : SI} (h : frIt I I1) : frTl I I1 := ⟨fun a b q => h.1 a b (by omega) (by omega), fun j _ q1 q2 => h.2 j q1 q2⟩
theorem frTl.K {I I1 : SI} (h : frTl I I1) : frK I I1 := fun a b q => h.1 a b (by omega)
theorem MR.tl {I I1 : SI} {s : SS} (h : MR I s) (hf : frTl I I1) : MR I1 s := by
  obtain ⟨ev, L, H, img, kp, S, n, t⟩ := s
  obtain ⟨h1, h2, h3, h4, h5, h6, h7, h8, h9⟩ := h
  have e : ∀ j, j < 27 → I1 29 0 j = I 29 0 j := fun j hj => hf.2 j (by omega) (by omega) (by omega)
  exact ⟨h1.k2 (e 6 (by decide)) (hf.1 30 0 (by omega)) (hf.1 38 0 (by omega)) (hf.1 39 0 (by omega)) (hf.1 40 0 (by omega)), h2.k2 (e 18 (by decide)) (e 19 (by decide)) (hf.1 43 0 (by omega)) (hf.1 44 0 (by omega)) (hf.1 45 0 (by omega)), h3.k (e 3 (by decide)) (hf.1 32 0 (by omega)), h4, h5.k (hf.1 34 0 (by omega)) (hf.1 33 0 (by omega)), h6, h7.k (e 10 (by decide)) (hf.1 35 0 (by omega)) (hf.1 36 0 (by omega)) (hf.1 37 0 (by omega)), h8, h9.k (e 22 (by decide)) (hf.1 46 0 (by omega))⟩
theorem TL_ok {t : Nat → Nat} {n : Nat} : ∀ {f k : Nat}, k ≤ n → ∀ q ∈ tls t n f k, q.1 < n ∧ q.2 = tkE t n q.1
  | 0, _, _, q, h => by simp [tls] at h
  | f + 1, k, hk, q, h => by
    simp only [tls] at h
    obtain ⟨w1, w2, w3, w4⟩ := tk_le (t := t) hk
    split at h
    · rename_i z
      rcases List.mem_cons.mp h with e | e
      · rw [e]
        exact ⟨z, rfl⟩
      · exact TL_ok w4 q e
    · simp at h
/-- an item that the model has read -/
def ITN (I1 : SI) (t : Nat → Nat) (n : Nat) (X : (Nat × List Ob × Toks) ⊕ Nat) (b : Bool) (ev2 : Int32) : Prop := match X with
  | .inl (ev1, L1, R1) => b = true ∧ ev2 = nI ev1 ∧ 2 ≤ ev1 ∧ ev1 ≤ 5 ∧ RW I1 31 0 L1 ∧ ATT I1 t n R1
  | .inr q => b = false ∧ ∃ R1, ATT I1 t n R1 ∧ plc n R1 = q
theorem RW.u29 {I : SI} {j : Nat} {L : List Ob} {x : Int32} (h : RW I 31 0 L) : RW (uI I 29 0 j x) 31 0 L := h.k (uI_tt (by decide))
theorem itm_ev {t : Nat → Nat} {n ev p e q f : Nat} {L : List Ob} {r2 : Toks} (h : isW t n 0 p e = true) : itm t n true ev L ((p, e) :: (q, f) :: r2) = if kAt t n q = 2 ∧ 2 ≤ vlN t q (f - q) ∧ vlN t q (f - q) ≤ 5 then .inl (vlN t q (f - q), L, r2) else .inr q := by
  simp only [itm]
  rw [if_pos h]
theorem itm_ev0 {t : Nat → Nat} {n ev p e : Nat} {L : List Ob} (h : isW t n 0 p e = true) : itm t n true ev L [(p, e)] = .inr n := by
  simp only [itm]
  rw [if_pos h]
theorem itm_evf {t : Nat → Nat} {n ev p e : Nat} {L : List Ob} {r : Toks} (h : isW t n 0 p e = true) : itm t n false ev L ((p, e) :: r) = obsR t n ev L p e r := by
  have h1 : evO t n ev p e = none := by
    unfold evO
    rw [if_neg (fun q => by
      have := (isW_1 h).2
      have e6 : nthD slen 0 0 = 6 := rfl
      omega)]
  rw [ob_none h1]
  simp only [itm]
  rw [if_pos h]
set_option maxRecDepth 10000 in
theorem m_tells (I : SI) (J : SJ) (s : SS) (h : MR I s) (d : Nat) (hd : 3 < d) : Tri d YX9_tells 117 [vr 29 0] (S0 I J) (fun r σ => r = some (vi (oTells s).1) ∧ ∃ I1, σ = S0 I1 J ∧ MR I1 (oTells s).2 ∧ frK I I1) := by
  refine Tri.of (M := MX9_tells) k_X9_tells ⟨Nat.le_refl _, Nat.le_refl _⟩ (Nat.le_of_ble_eq_true rfl) ?_
  obtain ⟨ev0, L0, H, img, kp, S, n, t⟩ := s
  have hX : MTX I n t := h.2.2.2.2.2.2.2.2
  have hn := hX.2.1
  generalize hQ : (fun (r : Option AV) (σ : ST) => r = some (vi (oTells (ev0, L0, H, img, kp, S, n, t)).1) ∧ ∃ I1, σ = S0 I1 J ∧ MR I1 (oTells (ev0, L0, H, img, kp, S, n, t)).2 ∧ frK I I1) = Q
  have X1 : ∀ I1, frTl I I1 → MTX I1 n t := fun I1 f => hX.k (f.2 22 (by decide) (by decide) (by decide)) (f.1 46 0 (by omega))
  -- a fault
  have fail : ∀ (q : Nat) (R : Toks) (I1 : SI), told t n = .inr q → ATT I1 t n R → plc n R = q → frTl I I1 → Sat none MX9_tells d 117 Q 22 [some (vr 29 0), none, none, some (vi 0), none] [] (S0 I1 J) := fun q R I1 ht hA hp hf => by
    have e : oTells (ev0, L0, H, img, kp, S, n, t) = (-10 - nI q, (ev0, L0, H, img, kp, S, n, t)) := by
      simp only [oTells, ht]
    have s160 : ∀ v, v = q → Sat none MX9_tells d 117 Q 160 [some (vr 29 0), none, none, some (vi 0), none] [vi (nI v), vi (-10)] (S0 I1 J) := fun v hv => by
      subst hv
      refine Sat.of k_X9_tells [] 60 ?_
      refine ⟨rfl, trivial, ?_⟩
      rw [← hQ, e]
      exact ⟨rfl, I1, rfl, h.tl hf, hf.K⟩
    refine Sat.of k_X9_tells [160] 60 ?_
    refine ⟨fun _ => ⟨fun q => absurd rfl q, fun _ => ?_⟩, fun q => absurd rfl q⟩
    cases R with
    | nil =>
      obtain ⟨a, m, e1, e2, h3, h4⟩ := hA.nil
      refine ⟨fun _ => ?_, fun c => ?_⟩
      · show Sat none MX9_tells d 117 Q 160 _ [vi (I1 29 0 22), vi (-10)] (S0 I1 J)
        rw [(X1 I1 hf).1]
        exact s160 n hp
      · have c : ¬ I1 29 0 27 ≤ I1 29 0 28 := c
        rw [e1, e2] at c
        exact absurd (nI_le h3 (by omega)) c
    | cons x r =>
      obtain ⟨p, e⟩ := x
      obtain ⟨a, m, e1, e2, h3, h4, h5, _⟩ := hA.cons
      have ea : (I1 29 0 28).toNatClampNeg = a := by rw [e1, nI_clamp (by omega)]
      refine ⟨fun c => ?_, fun _ => ⟨?_, ?_⟩⟩
      · have c : I1 29 0 27 ≤ I1 29 0 28 := c
        rw [e1, e2, nI_leI (by omega) (by omega)] at c
        omega
      · show vp_in (I1 29 0 28) 160
        rw [e1]
        exact vp_in_nI (by omega) (by decide)
      · show Sat none MX9_tells d 117 Q 160 _ [vi (I1 48 0 (I1 29 0 28).toNatClampNeg), vi (-10)] (S0 I1 J)
        have h51 : I1 48 0 a = nI p := h5.1
        rw [ea, h51]
        exact s160 p hp
  -- all is told
  have done : ∀ (items ev : Nat) (L : List Ob) (I1 : SI), told t n = .inl (items, ev, L) → 2 ≤ ev → ev ≤ 5 → frTl I I1 → RW I1 31 0 L → Sat none MX9_tells d 117 Q 162 [some (vr 29 0), some (vi (nI items)), some (vi (nI ev)), some (vi 1), none] [] (S0 I1 J) := fun items ev L I1 ht h2 h5 hf hR => by
    have e : oTells (ev0, L0, H, img, kp, S, n, t) = (nI items, (ev, L, [], img, fun _ => false, [], 0, t)) := by
      simp only [oTells, ht]
    have loop : ∀ (m k : Nat) (I2 : SI), k + m = 25 → (∀ a b, ¬ (a = 29 ∨ a = 30) → I2 a b = I1 a b) → I2 29 0 6 = nI ev → (∀ i, i < k → I2 30 0 i = I1 31 0 i) → Sat none MX9_tells d 117 Q 170 [some (vr 29 0), some (vi (nI items)), some (vi (nI ev)), some (vi 1), some (vi (nI k))] [] (S0 I2 J) := by
      intro m
      induction m with
      | zero =>
        intro k I2 hk g1 g2 g3
        have ek : k = 25 := by omega
        subst ek
        refine Sat.of k_X9_tells [170] 60 ?_
        refine ⟨fun _ => ⟨vp_in_nI (n := 0) (by decide) (by decide), Or.inl rfl, vp_in_nI (n := 1) (by decide) (by decide), Or.inl rfl, Or.inl rfl, rfl, trivial, ?_⟩, fun c => absurd (nI_le (a := 25) (b := 25) (by omega) (by omega)) c⟩
        rw [← hQ, e]
        generalize hI3 : uI (uI (uI (uI (uI (uI I2 29 0 3 0) 29 0 10 0) 34 0 0 0) 34 0 1 0) 29 0 18 0) 29 0 22 0 = I3
        have ff : ∀ a b, ¬ (a = 29 ∨ a = 30 ∨ a = 31 ∨ a = 34 ∨ (47 ≤ a ∧ a ≤ 50)) → I3 a b = I a b := fun a b q => by
          rw [← hI3, uI_tt (by omega), uI_tt (by omega), uI_tt (by omega), uI_tt (by omega), uI_tt (by omega), uI_tt (by omega), g1 a b (by omega)]
          exact hf.1 a b (by omega)
        refine ⟨rfl, I3, ?_, ?_, fun a b q => ff a b (by omega)⟩
        · rw [← hI3]
          rfl
        · obtain ⟨h1, _, _, _, _, _, _, _, _⟩ := h
          have hMC := h1.2.2.2.2.2
          refine ⟨⟨?_, h2, h5, ?_, told_wf ht, ?_⟩, ⟨false, ?_, fun q => absurd q (by decide)⟩, ⟨?_, by simp, fun j hj => absurd hj (by simp)⟩, fun j hj => absurd hj (by simp), fun b hb => ⟨?_, fun q => absurd (show false = true from q) (by decide)⟩, fun b hb q => absurd (show false = true from q) (by decide), ⟨?_, by simp, fun j hj => absurd hj (by simp)⟩, fun j hj => absurd hj (by simp), ⟨?_, by omega, fun i hi => absurd hi (by omega)⟩⟩
          · rw [← hI3, uI_j (by decide), uI_j (by decide), uI_t (by decide), uI_t (by decide), uI_j (by decide), uI_j (by decide)]
            exact g2
          · refine hR.copy (fun c hc => ?_)
            rw [← hI3, uI_t (by decide), uI_t (by decide), uI_t (by decide), uI_t (by decide), uI_t (by decide), uI_t (by decide), Nat.zero_add]
            exact g3 c hc
          · unfold MC at hMC ⊢
            rw [ff 38 0 (by omega), ff 39 0 (by omega), ff 40 0 (by omega)]
            exact hMC
          · rw [← hI3, uI_j (by decide), uI_at]
            rfl
          · rw [← hI3, uI_j (by decide), uI_j (by decide), uI_t (by decide), uI_t (by decide), uI_j (by decide), uI_at]
            rfl
          · rw [← hI3, uI_t (by decide), uI_t (by decide)]
            rcases (show b = 0 ∨ b = 1 by omega) with z | z
            · rw [z, uI_j (by decide), uI_at]
              rfl
            · rw [z, uI_at]
              rfl
          · rw [← hI3, uI_j (by decide), uI_j (by decide), uI_t (by decide), uI_t (by decide), uI_at]
            rfl
          · rw [← hI3, uI_at]
            rfl
      | succ m ih =>
        intro k I2 hk g1 g2 g3
        have ek : (nI k).toNatClampNeg = k := nI_clamp (by omega)
        refine Sat.of k_X9_tells [170] 60 ?_
        refine ⟨fun c => absurd ((nI_leI (a := 25) (by omega) (by omega)).mp c) (by omega), fun _ => ⟨vp_in_nI (by omega) (by decide), vp_in_nI (by omega) (by decide), (ih (k + 1) (uI I2 30 0 k (I2 31 0 k)) (by omega) (fun a b q => by rw [uI_tt (by omega)]; exact g1 a b q) (by rw [uI_t (by decide)]; exact g2) (fun i hi => ?_)).to (by rw [← nI_1 k]; rfl) (show (uI I2 30 0 (nI k).toNatClampNeg (I2 31 0 (nI k).toNatClampNeg), J, 117, aT) = _ by rw [ek])⟩⟩
        by_cases ei : i = k
        · rw [ei, uI_at, g1 31 0 (by omega)]
        · rw [uI_j ei]
          exact g3 i (by omega)
    refine Sat.of k_X9_tells [170] 60 ?_
    exact (loop 25 0 (uI I1 29 0 6 (nI ev)) (by omega) (fun a b q => uI_tt (by omega)) uI_at (fun i hi => absurd hi (by omega))).to rfl rfl
  -- item by item
  have loop : ∀ (f items ev : Nat) (L : List Ob) (R : Toks) (I1 : SI), f + items = 162 → items + R.length ≤ 160 → prs t n f items ev L R = told t n → 2 ≤ ev → ev ≤ 5 → ATT I1 t n R → RW I1 31 0 L → frTl I I1 → Sat none MX9_tells d 117 Q 22 [some (vr 29 0), some (vi (nI items)), some (vi (nI ev)), some (vi 1), none] [] (S0 I1 J) := by
    intro f
    induction f with
    | zero => intro items ev L R I1 hf hl; omega
    | succ f ih =>
      intro items ev L R I1 hf hl hp h2 h5 hA hR hfr
      cases R with
      | nil =>
        simp only [prs] at hp
        obtain ⟨a, m, e1, e2, h3, h4⟩ := hA.nil
        refine Sat.of k_X9_tells [162] 60 ?_
        refine ⟨fun q => absurd q (by decide), fun _ => ⟨fun _ => ⟨fun _ => done items ev L I1 hp.symm h2 h5 hfr hR, fun q => absurd q (by decide)⟩, fun c => ?_⟩⟩
        have c : ¬ I1 29 0 27 ≤ I1 29 0 28 := c
        rw [e1, e2] at c
        exact absurd (nI_le h3 (by omega)) c
      | cons x r =>
        obtain ⟨p, e⟩ := x
        obtain ⟨a, m, e1, e2, h3, h4, h6, h7, h8, h9⟩ := hA.cons
        simp only [prs] at hp
        -- behind an item
        have s85 : ∀ (b : Bool) (ev2 : Int32) (I2 : SI) (X : (Nat × List Ob × Toks) ⊕ Nat), itm t n (decide (items = 0)) ev L ((p, e) :: r) = X → ITN I2 t n X b ev2 → frTl I I2 → Sat none MX9_tells d 117 Q 85 [some (vr 29 0), some (vi (nI items)), some (vi ev2), some (vi (bi b)), none] [] (S0 I2 J) := fun b ev2 I2 X hit hN hf2 => by
          rw [hit] at hp
          cases X with
          | inr q =>
            obtain ⟨rfl, R1, n1, n2⟩ := hN
            simp only [stopR] at hp
            obtain ⟨a1, ha1⟩ : ∃ a1, I2 29 0 28 = nI a1 := by
              obtain ⟨T, a, _, _, _, q3, _⟩ := n1
              exact ⟨a, q3⟩
            refine Sat.of k_X9_tells [22] 60 ?_
            refine ⟨fun _ => ⟨fun _ => ?_, fun q => absurd rfl q⟩, fun q => absurd rfl q⟩
            refine (fail q R1 I2 hp.symm n1 n2 hf2).lw ⟨rfl, rfl, trivial⟩ ?_
            show (uI I2 29 0 28 (I2 29 0 28 + nI 0), J, 117, aT) = _
            rw [ha1, nI_add, Nat.add_zero, ← ha1, uI_id]
          | inl y =>
            obtain ⟨ev1, L1, R1⟩ := y
            obtain ⟨rfl, rfl, n1, n2, n3, n4⟩ := hN
            have hlen := itm_len hit
            obtain ⟨a1, ha1⟩ : ∃ a1, I2 29 0 28 = nI a1 := by
              obtain ⟨T, a, _, _, _, q3, _⟩ := n4
              exact ⟨a, q3⟩
            refine Sat.of k_X9_tells [22] 60 ?_
            refine ⟨fun q => absurd q (by decide), fun _ => ⟨0, 117, by omega, Nat.le_refl _, (m_isKind I2 J n 3 t R1 n4 (by decide) 0).mono ?_⟩⟩
            rintro v σ ⟨rfl, rfl⟩
            refine ⟨fun c => ⟨fun _ => ?_, fun q => absurd rfl q⟩, fun c => ⟨fun q => absurd q (by decide), fun _ => ?_⟩⟩
            · have c := bi_f c
              refine (fail (plc n R1) R1 I2 ?_ n4 rfl hf2).lw ⟨rfl, rfl, trivial⟩ ?_
              · rw [← hp]
                cases R1 with
                | nil => rfl
                | cons y r3 =>
                  obtain ⟨q, g⟩ := y
                  have c : ¬ mkd t n q g = 3 := of_decide_eq_false c
                  rw [mk_t.2.2] at c
                  simp only [stopR]
                  rw [if_neg c]
                  rfl
              · show (uI I2 29 0 28 (I2 29 0 28 + nI 0), J, 117, aT) = _
                rw [ha1, nI_add, Nat.add_zero, ← ha1, uI_id]
            · have c := bi_t c
              cases R1 with
              | nil => exact absurd (show false = true from c) (by decide)
              | cons y r3 =>
                obtain ⟨q, g⟩ := y
                have c : mkd t n q g = 3 := of_decide_eq_true c
                rw [mk_t.2.2] at c
                obtain ⟨a2, m2, z1, z2, z3, z4, z5, z6, z7, z8⟩ := n4.cons
                simp only [stopR] at hp
                rw [if_pos c] at hp
                refine (ih (items + 1) ev1 L1 r3 (uI I2 29 0 28 (nI (a2 + 1))) (by omega) ?_ hp n1 n2 z8 n3.u29 (hf2.tr (frTk.rf.u28).I.L)).to (by rw [← nI_1 items]; rfl) ?_
                · simp only [List.length_cons] at hlen hl
                  omega
                · show (uI I2 29 0 28 (I2 29 0 28 + 1), J, 117, aT) = _
                  rw [z1, nI_1]
        have sitem : itm t n (decide (items = 0)) ev L ((p, e) :: r) = obsR t n ev L p e r → Sat none MX9_tells d 117 Q 79 [some (vr 29 0), some (vi (nI items)), some (vi (nI ev)), some (vi 1), none] [] (S0 I1 J) := fun hit => by
          refine Sat.of k_X9_tells [85] 60 ?_
          refine ⟨3, 117, hd, Nat.le_refl _, (m_item I1 J n ev p e t L r hA (X1 I1 hfr) hR h2 h5 3 (by decide)).mono ?_⟩
          rintro v σ ⟨b, I2, rfl, rfl, hI, hf2⟩
          refine s85 b (nI ev) I2 _ hit ?_ (hfr.tr hf2.L)
          unfold ITN
          unfold ITM at hI
          cases ho : obsR t n ev L p e r with
          | inr q => rw [ho] at hI; exact hI
          | inl y =>
            obtain ⟨ev1, L1, R1⟩ := y
            rw [ho] at hI
            obtain ⟨q1, q2, q3, q4⟩ := hI
            exact ⟨q1, by rw [q2], by rw [q2]; exact h2, by rw [q2]; exact h5, q3, q4⟩
        have hlt : ¬ I1 29 0 27 ≤ I1 29 0 28 := fun c => by
          rw [e1, e2, nI_leI (by omega) (by omega)] at c
          omega
        have hil : items ≤ 160 := by omega
        refine Sat.of k_X9_tells [22, 79, 85] 60 ?_
        refine ⟨fun q => absurd q (by decide), fun _ => ⟨fun c => absurd c hlt, fun _ => ⟨fun c => ?_, fun c => ⟨1, 117, by omega, Nat.le_refl _, (m_isWord I1 J n 0 t ((p, e) :: r) hA (X1 I1 hfr) (by decide) 1 (by decide)).mono ?_⟩⟩⟩⟩
        · have c : ¬ nI items = nI 0 := c
          have hne : ¬ items = 0 := fun z => c (by rw [z])
          refine sitem ?_
          rw [decide_eq_false hne]
          cases hw : isW t n 0 p e with
          | true => exact itm_evf hw
          | false => exact itm_cons hw
        · have c : nI items = nI 0 := c
          rw [nI_eq (by omega) (by decide)] at c
          rintro v σ ⟨rfl, rfl⟩
          refine ⟨fun c1 => sitem (itm_cons (bi_f c1)), fun c1 => ?_⟩
          have hw : isW t n 0 p e = true := bi_t c1
          have f2 : frTl I1 (uI I1 29 0 28 (nI (a + 1))) := (frTk.rf.u28).I.L
          refine ⟨1, 117, by omega, Nat.le_refl _, (m_manyTold (uI I1 29 0 28 (nI (a + 1))) J n t r h9 1 (by decide)).to rfl (show (uI I1 29 0 28 (I1 29 0 28 + 1), J, 117, aT) = _ by rw [e1, nI_1]) ?_⟩
          rintro v σ ⟨rfl, I2, rfl, g1, g2⟩
          have f3 : frTl I I2 := (hfr.tr f2).tr g2.I.L
          have hm5 : myM t n r ≤ 5 := by
            unfold myM
            split
            · decide
            · split <;> omega
          refine ⟨fun c2 => ?_, fun c2 => ?_⟩
          · have c2 : nI (myM t n r) ≤ nI 0 := c2
            rw [nI_leI (by omega) (by decide)] at c2
            rw [if_neg (by omega)] at g1
            refine (s85 false (nI (myM t n r)) I2 (.inr (plc n r)) ?_ ⟨rfl, r, g1, rfl⟩ f3).to rfl rfl
            rw [decide_eq_true c]
            cases r with
            | nil => exact itm_ev0 hw
            | cons y r2 =>
              obtain ⟨q, g⟩ := y
              rw [itm_ev hw, if_neg (fun z => ?_)]
              · rfl
              · simp only [myM] at c2
                rw [if_pos z] at c2
                omega
          · have c2 : ¬ nI (myM t n r) ≤ nI 0 := c2
            rw [nI_leI (by omega) (by decide)] at c2
            rw [if_pos (by omega)] at g1
            cases r with
            | nil => exact absurd (Nat.le_refl 0) c2
            | cons y r2 =>
              obtain ⟨q, g⟩ := y
              have hk : kAt t n q = 2 ∧ 2 ≤ vlN t q (g - q) ∧ vlN t q (g - q) ≤ 5 := Classical.not_not.mp (fun z => c2 (by simp only [myM]; rw [if_neg z]; exact Nat.le_refl _))
              have hmy : myM t n ((q, g) :: r2) = vlN t q (g - q) := by
                simp only [myM]
                rw [if_pos hk]
              refine (s85 true (nI (myM t n ((q, g) :: r2))) I2 (.inl (vlN t q (g - q), L, r2)) ?_ ⟨rfl, by rw [hmy], hk.2.1, hk.2.2, ?_, g1⟩ f3).to rfl rfl
              · rw [decide_eq_true c, itm_ev hw, if_pos hk]
              · exact hR.k (by rw [g2.1 31 0 (by decide), uI_tt (by decide)])
  refine Sat.of k_X9_tells [22] 60 ?_
  refine ⟨2, 117, by omega, Nat.le_refl _, (m_split I J n t hX 2 (by decide)).mono ?_⟩
  rintro v σ ⟨rfl, I1, rfl, q1, q2⟩
  have hlen : (TL t n 0).length ≤ n := by
    have := tls_len (t := t) (n := n) (f := n + 1 - 0) (k := 0) (by omega)
    unfold TL
    omega
  refine ⟨vp_in_nI (n := 0) (by decide) (by decide), (loop 162 0 3 [] (TL t n 0) (uI (uI I1 29 0 28 0) 31 0 0 0) (by omega) (by omega) rfl (by decide) (by decide) ?_ ⟨uI_at, by simp, fun j hj => absurd hj (by simp)⟩ (q2.L.tr ⟨fun a b q => by rw [uI_tt (by omega), uI_tt (by omega)], fun j _ q _ => by rw [uI_t (by decide), uI_j q]⟩)).to rfl (show (uI (uI I1 29 0 28 0) 31 0 (nI 0).toNatClampNeg 0, J, 117, aT) = _ by rw [nI_clamp (by decide)])⟩
  have : ATT (uI I1 29 0 28 0) t n (TL t n 0) := ⟨TL t n 0, 0, ⟨by rw [uI_j (by decide)]; exact q1.1, fun j hj => (q1.2 j hj).u29⟩, by omega, fun q hq => TL_ok (by omega) q hq, uI_at, by omega, rfl⟩
  exact this.u31
