/-! The class: tells -/
theorem evO_lt {t : Nat → Nat} {n ev p e x : Nat} (h : evO t n ev p e = some x) (h2 : 2 ≤ ev) : x < ev := by
  have := evO_some h
  omega
theorem itm_wf {t : Nat → Nat} {n ev : Nat} {first : Bool} {L : List Ob} {T : Toks} {ev1 : Nat} {L1 : List Ob} {r : Toks} (h : itm t n first ev L T = .inl (ev1, L1, r)) (h2 : 2 ≤ ev) (hw : WFo ev L) (h0 : first = true → L = []) : 2 ≤ ev1 ∧ WFo ev1 L1 := by
  cases T with
  | nil => simp [itm] at h
  | cons a r1 =>
    obtain ⟨p, e⟩ := a
    simp only [itm] at h
    split at h
    · cases first with
      | false => simp at h
      | true =>
        have hL := h0 rfl
        subst hL
        cases r1 with
        | nil => simp at h
        | cons b r2 =>
          obtain ⟨q, f⟩ := b
          simp only at h
          split at h
          · rename_i c
            cases h
            exact ⟨c.2.1, fun j hj => absurd hj (by simp)⟩
          · cases h
    · cases hx : evO t n ev p e with
      | none => rw [hx] at h; simp at h
      | some x =>
        rw [hx] at h
        simp only at h
        split at h
        · cases h
        · cases r1 with
          | nil => simp at h
          | cons b r2 =>
            obtain ⟨q, f⟩ := b
            simp only at h
            split at h
            · rename_i c
              cases r2 with
              | nil => simp at h
              | cons g r3 =>
                obtain ⟨u, v⟩ := g
                simp only at h
                cases hy : evO t n ev u v with
                | none => rw [hy] at h; simp at h
                | some y =>
                  rw [hy] at h
                  simp only at h
                  split at h
                  · cases h
                  · rename_i hne
                    cases h
                    exact ⟨h2, hw.snoc (evO_lt hx h2) (evO_lt hy h2) (fun q => hne q.symm) c.1 (by omega)⟩
            · cases h
theorem stop_wf {t : Nat → Nat} {n ev : Nat} {first : Bool} {L : List Ob} {T : Toks} {ev1 : Nat} {L1 : List Ob} {r : Toks} (h : stopR t n (itm t n first ev L T) = .inl (ev1, L1, r)) (h2 : 2 ≤ ev) (hw : WFo ev L) (h0 : first = true → L = []) : 2 ≤ ev1 ∧ WFo ev1 L1 := by
  cases hi : itm t n first ev L T with
  | inr q => rw [hi] at h; simp [stopR] at h
  | inl x =>
    obtain ⟨ev2, L2, r2⟩ := x
    have := itm_wf hi h2 hw h0
    rw [hi] at h
    simp only [stopR] at h
    split at h
    · cases h
    · split at h
      · cases h
        exact this
      · cases h
theorem prs_wf {t : Nat → Nat} {n : Nat} {it ev1 : Nat} {L1 : List Ob} : ∀ {f items ev : Nat} {L : List Ob} {T : Toks}, prs t n f items ev L T = .inl (it, ev1, L1) → 2 ≤ ev → WFo ev L → (items = 0 → L = []) → WFo ev1 L1
  | 0, items, ev, L, T, h, _, _, _ => by simp [prs] at h
  | f + 1, items, ev, L, T, h, h2, hw, h0 => by
    cases T with
    | nil =>
      simp only [prs] at h
      cases h
      exact hw
    | cons tk r =>
      simp only [prs] at h
      cases hs : stopR t n (itm t n (decide (items = 0)) ev L (tk :: r)) with
      | inr q => rw [hs] at h; simp at h
      | inl x =>
        obtain ⟨ev2, L2, r2⟩ := x
        rw [hs] at h
        obtain ⟨g1, g2⟩ := stop_wf hs h2 hw (fun q => h0 (of_decide_eq_true q))
        exact prs_wf (f := f) (items := items + 1) h g1 g2 (fun q => absurd q (by omega))
theorem told_wf {t : Nat → Nat} {n it ev : Nat} {L : List Ob} (h : told t n = .inl (it, ev, L)) : WFo ev L := prs_wf h (by decide) (fun j hj => absurd hj (by simp)) (fun _ => rfl)
def oTells (s : SS) : Int32 × SS := match s with
  | (ev, L, H, img, kp, S, n, t) => (match told t n with
    | .inl (items, ev1, L1) => (nI items, (ev1, L1, [], img, fun _ => false, [], 0, t))
    | .inr q => (-10 - nI q, (ev, L, H, img, kp, S, n, t)))
theorem neg_q : ∀ q, q < 161 → ¬ (0 : Int32) ≤ -10 - nI q := by decide +kernel
set_option maxRecDepth 10000 in
theorem c_tells (I : SI) (J : SJ) (s : SS) (h : CR I J s) (d : Nat) (hd : 8 < d) : Tri d YX8_tells 117 [vr 25 0] (S0 I J) (fun r σ => r = some (vi (oTells s).1) ∧ ∃ I1, σ = S0 I1 J ∧ CR I1 J (oTells s).2 ∧ frC I I1) := by
  refine Tri.of (M := MX8_tells) k_X8_tells ⟨Nat.le_refl _, Nat.le_refl _⟩ (Nat.le_of_ble_eq_true rfl) ?_
  obtain ⟨ev, L, H, img, kp, S, n, t⟩ := s
  obtain ⟨l1, l2, l3⟩ : LTR I n t := h.2.2.2.2.2.2.1
  refine Sat.of k_X8_tells [54] 60 ?_
  refine ⟨8, 117, hd, Nat.le_refl _, (c_readText I J n t l2 l3 8 (by decide)).to (by rw [← l1]) rfl ?_⟩
  rintro r σ ⟨x, I1, rfl, rfl, q1, q2⟩
  cases ht : told t n with
  | inr q =>
    rw [ht] at q1
    obtain ⟨rfl, hq⟩ := q1
    have e : oTells (ev, L, H, img, kp, S, n, t) = (-10 - nI q, (ev, L, H, img, kp, S, n, t)) := by
      simp only [oTells, ht]
    rw [e]
    refine ⟨fun c => absurd c (neg_q q (by omega)), fun c => ⟨rfl, trivial, rfl, I1, rfl, ?_, fun a b q => q2 a b (by omega) (by omega)⟩⟩
    obtain ⟨⟨a1, a2, a3, kc, a4, a6⟩, ⟨kr, r1, r2⟩, h3, h4, h5, h6, h7, h8⟩ := h
    have hf : ∀ a b, ¬ (a = 20 ∨ (3 ≤ a ∧ a ≤ 6 ∧ b = 0)) → I1 a b = I a b := fun a b q => q2 a b (by omega) (by omega)
    refine ⟨⟨?_, a2.same (fun t _ _ => hf t 1 (by omega)), a3, kc, by rw [hf 7 0 (by omega)]; exact a4, fun q => (a6 q).k (hf 16 1 (by omega)) (hf 17 1 (by omega)) (hf 8 0 (by omega)) (hf 15 0 (by omega)) rfl⟩, ⟨kr, by rw [hf 7 0 (by omega)]; exact r1, fun q x y hx hy => by rw [hf 17 2 (by omega)]; exact r2 q x y hx hy⟩, h3.k (fun a b q => hf a b (by omega)), h4, ?_, h6, ?_, fun b hb => ?_⟩
    · unfold ALG at a1 ⊢
      rw [hf 1 0 (by omega), hf 2 0 (by omega)]
      exact a1
    · unfold SNP at h5 ⊢
      rw [hf 21 0 (by omega), hf 22 0 (by omega), hf 23 0 (by omega), hf 24 0 (by omega)]
      exact h5
    · unfold LTR at h7 ⊢
      rw [hf 25 0 (by omega), hf 26 0 (by omega)]
      exact h7
    · obtain ⟨z1, z2⟩ := h8 b hb
      exact ⟨by rw [hf 28 0 (by omega)]; exact z1, fun q => ⟨(z2 q).1.same (fun t _ _ => hf t (10 + b) (by omega)), (z2 q).2⟩⟩
  | inl y =>
    obtain ⟨items, ev1, L1⟩ := y
    rw [ht] at q1
    obtain ⟨rfl, hit, hB0⟩ := q1
    have hw := told_wf ht
    have e : oTells (ev, L, H, img, kp, S, n, t) = (nI items, (ev1, L1, [], img, fun _ => false, [], 0, t)) := by
      simp only [oTells, ht]
    rw [e]
    refine ⟨fun c => ⟨0, 117, by omega, Nat.le_refl _, (c_copyFrom I1 J 1 0 ev1 L1 hB0 (by decide) 0).mono ?_⟩, fun c => absurd (nI_le (a := 0) (b := items) (by omega) (by omega)) c⟩
    rintro r σ ⟨rfl, I2, rfl, q3, q4⟩
    refine ⟨0, 117, by omega, Nat.le_refl _, (c_dropAll (uI I2 25 0 1 0) J 0).mono ?_⟩
    rintro r σ ⟨rfl, rfl⟩
    have loop : ∀ (m j : Nat) (I3 : SI), j + m = 2 → (∀ a b, a ≠ 28 → I3 a b = uI (uI (uI I2 25 0 1 0) 18 0 1 0) 21 0 3 0 a b) → (∀ i, i < j → I3 28 0 i = 0) → Sat none MX8_tells d 117 (fun r σ => r = some (vi (nI items)) ∧ ∃ I1, σ = S0 I1 J ∧ CR I1 J (ev1, L1, [], img, fun _ => false, [], 0, t) ∧ frC I I1) 54 [some (vr 25 0), some (vi (nI items)), some (vi (nI j))] [] (S0 I3 J) := by
      intro m
      induction m with
      | zero =>
        intro j I3 hj f1 f2
        have ej : j = 2 := by omega
        subst ej
        refine Sat.of k_X8_tells [54] 60 ?_
        refine ⟨fun c => ⟨0, 117, by omega, Nat.le_refl _, (c_forgetAll I3 J 0).mono ?_⟩, fun c => absurd (nI_le (a := 2) (b := 2) (by omega) (by omega)) c⟩
        rintro r σ ⟨rfl, rfl⟩
        have hf : ∀ a b, ¬ (a = 7 ∨ a = 18 ∨ a = 20 ∨ a = 21 ∨ a = 25 ∨ a = 28 ∨ (3 ≤ a ∧ a ≤ 6 ∧ b ≤ 1)) → uI (uI I3 7 0 8 0) 7 0 9 0 a b = I a b := fun a b q => by
          rw [uI_tt (by omega), uI_tt (by omega), f1 a b (by omega), uI_tt (by omega), uI_tt (by omega), uI_tt (by omega), q4 a b (by omega), q2 a b (by omega) (by omega)]
        refine ⟨rfl, trivial, rfl, _, rfl, ?_, fun a b q => hf a b (by omega)⟩
        obtain ⟨⟨a1, a2, a3, kc, a4, a6⟩, _, h3, h4, h5, h6, h7, h8⟩ := h
        refine ⟨⟨?_, q3.same (fun t _ _ => ?_), hw, false, ?_, fun q => absurd q (by decide)⟩, ⟨false, ?_, fun q => absurd q (by decide)⟩, ?_, fun j hj => absurd hj (by simp), ⟨?_, by simp, fun j hj => absurd hj (by simp)⟩, fun j hj => absurd hj (by simp), ⟨?_, by omega, fun i hi => absurd hi (by omega)⟩, fun b hb => ⟨?_, fun q => absurd (show false = true from q) (by decide)⟩⟩
        · unfold ALG at a1 ⊢
          rw [hf 1 0 (by omega), hf 2 0 (by omega)]
          exact a1
        · rw [uI_tt (by omega), uI_tt (by omega), f1 t 1 (by omega), uI_tt (by omega), uI_tt (by omega), uI_tt (by omega)]
        · rw [uI_j (by decide), uI_at]
          rfl
        · rw [uI_at]
          rfl
        · obtain ⟨π, p1, p2, p3, p4⟩ := h3
          refine ⟨π, ?_, ?_, by simp, fun j hj => absurd hj (by simp)⟩
          · unfold PRM at p1 ⊢
            rw [hf 19 0 (by omega)]
            exact p1
          · rw [uI_t (by decide), uI_t (by decide), f1 18 0 (by decide), uI_t (by decide), uI_at]
            rfl
        · rw [uI_t (by decide), uI_t (by decide), f1 21 0 (by decide), uI_at]
          rfl
        · rw [uI_t (by decide), uI_t (by decide), f1 25 0 (by decide), uI_t (by decide), uI_t (by decide), uI_at]
          rfl
        · rw [uI_t (by decide), uI_t (by decide), f2 b hb]
          rfl
      | succ m ih =>
        intro j I3 hj f1 f2
        have ej : (nI j).toNatClampNeg = j := nI_clamp (by omega)
        refine Sat.of k_X8_tells [54] 60 ?_
        refine ⟨fun c => absurd ((nI_leI (a := 2) (by omega) (by omega)).mp c) (by omega), fun c => ⟨vp_in_nI (by omega) (by decide), Or.inl rfl, (ih (j + 1) (uI I3 28 0 j 0) (by omega) (fun a b q => by rw [uI_tt q]; exact f1 a b q) (fun i hi => ?_)).to (by rw [← nI_1]; rfl) (show (uI I3 28 0 (nI j).toNatClampNeg 0, J, 117, aT) = _ by rw [ej])⟩⟩
        by_cases e : i = j
        · rw [e, uI_at]
        · rw [uI_j e]
          exact f2 i (by omega)
    exact (loop 2 0 _ (by omega) (fun _ _ _ => rfl) (fun i hi => absurd hi (by omega))).to rfl rfl
