/-! The model: split -/
def mkd (t : Nat → Nat) (n p e : Nat) : Nat := if kAt t n p = 1 then 2 else if kAt t n p = 2 then (if vlN t p (e - p) ≤ 9999 then 1 else 4) else if kAt t n p = 3 then 3 else 4
theorem mkd_lt {t : Nat → Nat} {n p e : Nat} : mkd t n p e < 5 := by
  unfold mkd
  repeat' split
  all_goals decide
def TK1 (I : SI) (t : Nat → Nat) (n j : Nat) (q : Nat × Nat) : Prop := I 48 0 j = nI q.1 ∧ I 49 0 j = nI (q.2 - q.1) ∧ I 47 0 j = nI (mkd t n q.1 q.2) ∧ (mkd t n q.1 q.2 = 1 → I 50 0 j = nI (vlN t q.1 (q.2 - q.1)))
def TKM (I : SI) (t : Nat → Nat) (n : Nat) (T : Toks) : Prop := I 29 0 27 = nI T.length ∧ ∀ j, j < T.length → TK1 I t n j (nthD T j (0, 0))
def frSp (I I1 : SI) : Prop := (∀ a b, ¬ (a = 29 ∨ (47 ≤ a ∧ a ≤ 50)) → I1 a b = I a b) ∧ ∀ j, j ≠ 27 → I1 29 0 j = I 29 0 j
theorem frSp.u {I I1 : SI} {a j : Nat} {x : Int32} (h : frSp I I1) (ha : 47 ≤ a) (ha2 : a ≤ 50) : frSp I (uI I1 a 0 j x) := ⟨fun b c q => by rw [uI_tt (by omega)]; exact h.1 b c q, fun i q => by rw [uI_t (by omega)]; exact h.2 i q⟩
theorem frSp.u27 {I I1 : SI} {x : Int32} (h : frSp I I1) : frSp I (uI I1 29 0 27 x) := ⟨fun b c q => by rw [uI_tt (by omega)]; exact h.1 b c q, fun i q => by rw [uI_j q]; exact h.2 i q⟩
theorem TK1.u {I : SI} {t : Nat → Nat} {n j a m : Nat} {q : Nat × Nat} {x : Int32} (h : TK1 I t n j q) (hj : j < m) : TK1 (uI I a 0 m x) t n j q := by
  unfold TK1 at h ⊢
  rw [uI_j (by omega), uI_j (by omega), uI_j (by omega), uI_j (by omega)]
  exact h
theorem TK1.u29 {I : SI} {t : Nat → Nat} {n j m : Nat} {q : Nat × Nat} {x : Int32} (h : TK1 I t n j q) : TK1 (uI I 29 0 m x) t n j q := by
  unfold TK1 at h ⊢
  rw [uI_t (by decide), uI_t (by decide), uI_t (by decide), uI_t (by decide)]
  exact h
theorem TL_skip {t : Nat → Nat} {n k : Nat} (hk : k < n) (h : t k = 32) : TL t n k = TL t n (k + 1) := by
  have e : tkP t n k = tkP t n (k + 1) := pst_go hk (decide_eq_true h)
  by_cases q : tkP t n k < n
  · rw [TL_cons (by omega) q, TL_cons (k := k + 1) (by omega) (by rw [← e]; exact q), e]
  · rw [TL_nil (by omega) q, TL_nil (k := k + 1) (by omega) (by rw [← e]; exact q)]
theorem TL_tok {t : Nat → Nat} {n k : Nat} (hk : k < n) (h : t k ≠ 32) : TL t n k = (k, tkE t n k) :: TL t n (tkE t n k) := by
  have e : tkP t n k = k := pst_no (decide_eq_false h)
  have := TL_cons (t := t) (n := n) (k := k) (by omega) (by rw [e]; exact hk)
  rw [e] at this
  exact this
set_option maxRecDepth 10000 in
theorem m_split (I : SI) (J : SJ) (n : Nat) (t : Nat → Nat) (hX : MTX I n t) (d : Nat) (hd : 1 < d) : Tri d YX9_split 117 [vr 29 0] (S0 I J) (fun r σ => r = none ∧ ∃ I1, σ = S0 I1 J ∧ TKM I1 t n (TL t n 0) ∧ frSp I I1) := by
  refine Tri.of (M := MX9_split) k_X9_split ⟨Nat.le_refl _, Nat.le_refl _⟩ (Nat.le_of_ble_eq_true rfl) ?_
  have hn := hX.2.1
  generalize hQ : (fun (r : Option AV) (σ : ST) => r = none ∧ ∃ I1, σ = S0 I1 J ∧ TKM I1 t n (TL t n 0) ∧ frSp I I1) = Q
  have eX : ∀ I1, frSp I I1 → MTX I1 n t := fun I1 f => hX.k (f.2 22 (by decide)) (f.1 46 0 (by omega))
  have loop : ∀ (f k : Nat) (T0 : Toks) (I1 : SI), n ≤ k + f → k ≤ n → T0 ++ TL t n k = TL t n 0 → T0.length ≤ k → frSp I I1 → TKM I1 t n T0 → Sat none MX9_split d 117 Q 7 [some (vr 29 0), some (vi (nI k)), none, none, none, none] [] (S0 I1 J) := by
    intro f
    have fin : ∀ (k : Nat) (T0 : Toks) (I1 : SI), k = n → T0 ++ TL t n k = TL t n 0 → frSp I I1 → TKM I1 t n T0 → Sat none MX9_split d 117 Q 7 [some (vr 29 0), some (vi (nI k)), none, none, none, none] [] (S0 I1 J) := fun k T0 I1 hk hT f1 hM => by
      have hnil : TL t n k = [] := TL_nil (by omega) (by
        have : tkP t n k = k := pst_end (by omega)
        omega)
      rw [hnil, List.append_nil] at hT
      refine Sat.of k_X9_split [7] 60 ?_
      refine ⟨fun _ => ⟨rfl, rfl, ?_⟩, fun c => ?_⟩
      · rw [← hQ, ← hT]
        exact ⟨rfl, I1, rfl, hM, f1⟩
      · have c : ¬ I1 29 0 22 ≤ nI k := c
        rw [(eX I1 f1).1] at c
        exact absurd (nI_le (by omega) (by omega)) c
    induction f with
    | zero =>
      intro k T0 I1 hf hk hT hl f1 hM
      exact fin k T0 I1 (by omega) hT f1 hM
    | succ f ih =>
      intro k T0 I1 hf hk hT hl f1 hM
      by_cases hkn : k = n
      · exact fin k T0 I1 hkn hT f1 hM
      have hlt : k < n := by omega
      have ek : (nI k).toNatClampNeg = k := nI_clamp (by omega)
      obtain ⟨c1, c2⟩ := (eX I1 f1).2.2 k hlt
      obtain ⟨w1, w2⟩ := hM
      generalize hm : T0.length = m at w1 w2 hl
      have hm160 : m < 160 := by omega
      have em : (nI m).toNatClampNeg = m := nI_clamp (by omega)
      have hvm : vp_in (nI m) 160 := vp_in_nI hm160 (by decide)
      have hkd : kAt t n k = kdC (t k) := by unfold kAt; rw [if_pos hlt]
      -- a token's end
      have s196 : ∀ (e : Nat) (I2 : SI), k < e → e ≤ n → frSp I I2 → I2 29 0 27 = nI m → (∀ j, j < m → TK1 I2 t n j (nthD T0 j (0, 0))) → ((t k = 32 ∧ e = k + 1) ∨ (t k ≠ 32 ∧ e = tkE t n k ∧ I2 47 0 m = nI (mkd t n k e) ∧ (mkd t n k e = 1 → I2 50 0 m = nI (vlN t k (e - k))))) → Sat none MX9_split d 117 Q 196 [some (vr 29 0), some (vi (nI k)), some (vi (nI (t k))), some (vi (nI e)), none, none] [] (S0 I2 J) := fun e I2 he he2 f2 g1 g2 g3 => by
        have g27 : ∀ u, uI I2 48 0 u (nI k) 29 0 27 = nI m := fun u => by rw [uI_t (by decide)]; exact g1
        have g27' : ∀ u u1 x, uI (uI I2 48 0 u (nI k)) 49 0 u1 x 29 0 27 = nI m := fun u u1 x => by rw [uI_t (by decide), uI_t (by decide)]; exact g1
        have esz : nI e - nI k = nI (e - k) := pk_sub (by omega)
        generalize hI3 : uI (uI I2 48 0 m (nI k)) 49 0 m (nI (e - k)) = I3
        have f3 : frSp I I3 := by rw [← hI3]; exact (f2.u (by decide) (by decide)).u (by decide) (by decide)
        have h27 : I3 29 0 27 = nI m := by rw [← hI3]; exact g27' _ _ _
        have hst : uI (uI I2 48 0 (I2 29 0 27).toNatClampNeg (nI k)) 49 0 (uI I2 48 0 (I2 29 0 27).toNatClampNeg (nI k) 29 0 27).toNatClampNeg (nI e - nI k) = I3 := by
          rw [g27, g1, em, esz, hI3]
        have htk : ∀ j, j < m → TK1 I3 t n j (nthD T0 j (0, 0)) := fun j hj => by rw [← hI3]; exact ((g2 j hj).u hj).u hj
        have s234 : ∀ b : Bool, b = decide (t k ≠ 32) → Sat none MX9_split d 117 Q 234 [some (vr 29 0), some (vi (nI k)), some (vi (nI (t k))), some (vi (nI e)), none, none] [vi (bi b), vi (nI m), vr 29 0] (S0 I3 J) := fun b hb => by
          refine Sat.of k_X9_split [7] 60 ?_
          cases b with
          | false =>
            have h32 : t k = 32 := Classical.not_not.mp (of_decide_eq_false hb.symm)
            have he1 : e = k + 1 := by
              rcases g3 with q | q
              · exact q.2
              · exact absurd h32 q.1
            refine (ih e T0 (uI I3 29 0 27 (nI m)) (by omega) he2 ?_ (by omega) f3.u27 ⟨by rw [uI_at, hm], fun j hj => (htk j (by omega)).u29⟩).lw ⟨rfl, rfl, trivial⟩ ?_
            · rw [he1, ← TL_skip hlt h32]
              exact hT
            · show (uI I3 29 0 27 (nI m + nI 0), J, 117, aT) = _
              rw [nI_add]
              rfl
          | true =>
            have h32 : t k ≠ 32 := of_decide_eq_true hb.symm
            rcases g3 with q | ⟨_, q2, q3, q4⟩
            · exact absurd q.1 h32
            · have hl2 : (T0 ++ [(k, e)]).length = m + 1 := by rw [List.length_append, hm]; rfl
              refine (ih e (T0 ++ [(k, e)]) (uI I3 29 0 27 (nI (m + 1))) (by omega) he2 ?_ (by omega) f3.u27 ⟨by rw [uI_at, hl2], fun j hj => ?_⟩).lw ⟨rfl, rfl, trivial⟩ ?_
              · rw [← hT, TL_tok hlt h32, ← q2, List.append_assoc]
                rfl
              · rw [hl2] at hj
                rw [nthD_snoc, hm]
                refine TK1.u29 ?_
                by_cases ej : j < m
                · rw [if_pos ej]
                  exact htk j ej
                · have ej2 : j = m := by omega
                  rw [if_neg ej, if_pos ej2, ej2, ← hI3]
                  unfold TK1
                  rw [uI_t (by decide), uI_at, uI_at, uI_t (by decide), uI_t (by decide), uI_t (by decide), uI_t (by decide)]
                  exact ⟨rfl, rfl, q3, q4⟩
              · show (uI I3 29 0 27 (nI m + nI 1), J, 117, aT) = _
                rw [nI_add]
        refine Sat.of k_X9_split [234] 60 ?_
        refine ⟨?_, ?_, ?_⟩
        · show vp_in (I2 29 0 27) 160
          rw [g1]
          exact hvm
        · show vp_in (uI I2 48 0 (I2 29 0 27).toNatClampNeg (nI k) 29 0 27) 160
          rw [g27]
          exact hvm
        · have hgo : ∀ b : Bool, b = decide (t k ≠ 32) → Sat none MX9_split d 117 Q 234 [some (vr 29 0), some (vi (nI k)), some (vi (nI (t k))), some (vi (nI e)), none, none] [vi (bi b), vi (uI (uI I2 48 0 (I2 29 0 27).toNatClampNeg (nI k)) 49 0 (uI I2 48 0 (I2 29 0 27).toNatClampNeg (nI k) 29 0 27).toNatClampNeg (nI e - nI k) 29 0 27), vr 29 0] (S0 (uI (uI I2 48 0 (I2 29 0 27).toNatClampNeg (nI k)) 49 0 (uI I2 48 0 (I2 29 0 27).toNatClampNeg (nI k) 29 0 27).toNatClampNeg (nI e - nI k)) J) := fun b hb => by
            rw [hst, h27]
            exact s234 b hb
          refine ⟨fun c => hgo true ?_, fun c => hgo false ?_⟩
          · have c : ¬ nI (t k) = nI 32 := c
            exact (decide_eq_true (show t k ≠ 32 from fun e => c (by rw [e]))).symm
          · have c : nI (t k) = nI 32 := c
            rw [nI_eq (by omega) (by decide)] at c
            exact (decide_eq_false (fun q => q c)).symm
      -- a number's value
      have s107 : ∀ (e : Nat) (I2 : SI), k < e → e ≤ n → (∀ i, k ≤ i → i < e → 48 ≤ t i ∧ t i ≤ 57) → kdC (t k) = 2 → e = tkE t n k → frSp I I2 → I2 29 0 27 = nI m → (∀ j, j < m → TK1 I2 t n j (nthD T0 j (0, 0))) → ∀ (z j : Nat), k ≤ j → j + z = e → Sat none MX9_split d 117 Q 107 [some (vr 29 0), some (vi (nI k)), some (vi (nI (t k))), some (vi (nI e)), some (vi (nI (mv t k (j - k)))), some (vi (nI j))] [] (S0 I2 J) := by
        intro e I2 he he2 hdg hk2 hee f2 g1 g2 z
        have hdd : ∀ m, m ≤ e - k → ∀ i, i < m → 48 ≤ t (k + i) ∧ t (k + i) ≤ 57 := fun m hm i hi => hdg (k + i) (by omega) (by omega)
        induction z with
        | zero =>
          intro j hkj hj
          have ej : j = e := by omega
          subst ej
          have hvlt := mv_lt (hdd (j - k) (Nat.le_refl _))
          obtain ⟨nk1, nk2⟩ := num_kind he hdg
          have h48 := (hdg k (Nat.le_refl _) he)
          have s184 : ∀ kd, kd = mkd t n k j → Sat none MX9_split d 117 Q 184 [some (vr 29 0), some (vi (nI k)), some (vi (nI (t k))), some (vi (nI j)), some (vi (nI (mv t k (j - k)))), some (vi (nI j))] [vi (nI kd), vi (I2 29 0 27), vr 47 0] (S0 I2 J) := fun kd hkd2 => by
            refine Sat.of k_X9_split [196] 60 ?_
            have g27 : ∀ u, uI I2 47 0 u (nI kd) 29 0 27 = nI m := fun u => by rw [uI_t (by decide)]; exact g1
            refine ⟨?_, ?_, (s196 j (uI (uI I2 47 0 m (nI kd)) 50 0 m (nI (mv t k (j - k)))) he he2 ((f2.u (by decide) (by decide)).u (by decide) (by decide)) (by rw [uI_t (by decide), uI_t (by decide)]; exact g1) (fun i hi => ((g2 i hi).u hi).u hi) (Or.inr ⟨by omega, hee, by rw [uI_t (by decide), uI_at, hkd2], fun q => ?_⟩)).lw ⟨rfl, rfl, rfl, rfl, trivial⟩ ?_⟩
            · show vp_in (I2 29 0 27) 160
              rw [g1]
              exact hvm
            · show vp_in (uI I2 47 0 (I2 29 0 27).toNatClampNeg (nI kd) 29 0 27) 160
              rw [g27]
              exact hvm
            · rw [uI_at, nk2 ?_]
              unfold mkd at q
              rw [hkd, hk2, if_neg (by decide), if_pos rfl] at q
              split at q
              · assumption
              · cases q
            · show (uI (uI I2 47 0 (I2 29 0 27).toNatClampNeg (nI kd)) 50 0 (uI I2 47 0 (I2 29 0 27).toNatClampNeg (nI kd) 29 0 27).toNatClampNeg (nI (mv t k (j - k))), J, 117, aT) = _
              rw [g27, g1, em]
          have hmk4 : (9999 < mv t k (j - k) ∨ (t k = 48 ∧ k + 1 < j)) → 4 = mkd t n k j := fun q => by
            unfold mkd
            rw [hkd, hk2, if_neg (by decide), if_pos rfl, if_neg (nk1.mp q)]
          have hmk1 : ¬ (9999 < mv t k (j - k) ∨ (t k = 48 ∧ k + 1 < j)) → 1 = mkd t n k j := fun q => by
            unfold mkd
            rw [hkd, hk2, if_neg (by decide), if_pos rfl, if_pos (Classical.not_not.mp (fun z => q (nk1.mpr z)))]
          refine Sat.of k_X9_split [107, 184] 60 ?_
          refine ⟨fun _ => ⟨fun c => s184 4 (hmk4 (Or.inl ?_)), fun c => ⟨fun c1 => s184 1 (hmk1 ?_), fun c1 => ⟨fun c2 => s184 1 (hmk1 ?_), fun c2 => s184 4 (hmk4 (Or.inr ⟨?_, ?_⟩))⟩⟩⟩, fun c => absurd (nI_le (Nat.le_refl _) (by omega)) c⟩
          · have c : nI 9999 < nI (mv t k (j - k)) := c
            rw [nI_ltI (by decide) (by omega)] at c
            exact c
          · have c : ¬ nI 9999 < nI (mv t k (j - k)) := c
            rw [nI_ltI (by decide) (by omega)] at c
            have c1 : ¬ nI (t k) = nI 48 := c1
            rintro (q | q)
            · exact c q
            · exact c1 (by rw [q.1])
          · have c : ¬ nI 9999 < nI (mv t k (j - k)) := c
            rw [nI_ltI (by decide) (by omega)] at c
            have c2 : nI j ≤ nI k + 1 := c2
            rw [nI_1, nI_leI (by omega) (by omega)] at c2
            rintro (q | q)
            · exact c q
            · omega
          · have c1 : nI (t k) = nI 48 := c1
            rw [nI_eq (by omega) (by decide)] at c1
            exact c1
          · have c2 : ¬ nI j ≤ nI k + 1 := c2
            rw [nI_1, nI_leI (by omega) (by omega)] at c2
            omega
        | succ z ihz =>
          intro j hkj hj
          have ej : (nI j).toNatClampNeg = j := nI_clamp (by omega)
          have hvlt := mv_lt (hdd (j - k) (by omega))
          have hdj := hdg j hkj (by omega)
          have htj : I2 46 0 j = nI (t j) := ((eX I2 f2).2.2 j (by omega)).1
          have estep : mv t k (j + 1 - k) = (if mv t k (j - k) < 10000 then 10 * mv t k (j - k) + t j - 48 else mv t k (j - k)) := by
            rw [show j + 1 - k = (j - k) + 1 by omega]
            simp only [mv]
            rw [show k + (j - k) = j by omega]
          have s142 : ∀ w, w = mv t k (j + 1 - k) → Sat none MX9_split d 117 Q 142 [some (vr 29 0), some (vi (nI k)), some (vi (nI (t k))), some (vi (nI e)), some (vi (nI (mv t k (j - k)))), some (vi (nI j))] [vi (nI w)] (S0 I2 J) := fun w hw => by
            refine Sat.of k_X9_split [107] 60 ?_
            refine (ihz (j + 1) (by omega) (by omega)).to ?_ rfl
            rw [← hw, ← nI_1 j]
            rfl
          refine Sat.of k_X9_split [107, 142] 60 ?_
          refine ⟨fun c => absurd ((nI_leI (a := e) (by omega) (by omega)).mp c) (by omega), fun _ => ⟨fun c => s142 _ ?_, fun c => ⟨vp_in_nI (by omega) (by decide), ?_⟩⟩⟩
          · have c : nI 10000 ≤ nI (mv t k (j - k)) := c
            rw [nI_leI (by decide) (by omega)] at c
            rw [estep, if_neg (by omega)]
          · have c : ¬ nI 10000 ≤ nI (mv t k (j - k)) := c
            rw [nI_leI (by decide) (by omega)] at c
            show Sat none MX9_split d 117 Q 142 _ [vi ((10 : Int32) * nI (mv t k (j - k)) + I2 46 0 (nI j).toNatClampNeg - 48)] (S0 I2 J)
            rw [ej, htj, show (10 : Int32) = nI 10 from rfl, pk_mul, nI_add, show (48 : Int32) = nI 48 from rfl, pk_sub (by omega)]
            exact s142 _ (by rw [estep, if_pos (by omega)])
      -- what kind
      have s80 : ∀ (I2 : SI) (kd : Nat), frSp I I2 → I2 29 0 27 = nI m → (∀ j, j < m → TK1 I2 t n j (nthD T0 j (0, 0))) → kdC (t k) ≠ 1 → I2 47 0 m = nI kd → kd = (if t k = 59 then 3 else 4) → Sat none MX9_split d 117 Q 80 [some (vr 29 0), some (vi (nI k)), some (vi (nI (t k))), some (vi (nI (k + 1))), none, none] [] (S0 I2 J) := fun I2 kd f2 g1 g2 hk1 h47 hkd3 => by
        refine Sat.of k_X9_split [107, 196] 60 ?_
        refine ⟨0, 117, by omega, Nat.le_refl _, (m_in I2 J (nI (t k)) (nI 48) (nI 57) 0).mono ?_⟩
        rintro r σ ⟨rfl, rfl⟩
        rw [in_ab c2 (by decide) (by decide)]
        refine ⟨fun c => ?_, fun c => ⟨1, 117, hd, Nat.le_refl _, (m_rowN I2 J n k t (eX I2 f2) (by omega) 1 (by decide)).mono ?_⟩⟩
        · have c := of_decide_eq_false (bi_f c)
          have hk2 : kdC (t k) ≠ 2 := fun q => c (kd2.mp q)
          by_cases h32 : t k = 32
          · exact (s196 (k + 1) I2 (by omega) (by omega) f2 g1 g2 (Or.inl ⟨h32, rfl⟩)).to rfl rfl
          · have he : k + 1 = tkE t n k := by
              unfold tkE
              have := (kdC_le (t k)).2
              rw [hkd, if_neg (fun q => by rcases q with q | q; exact hk1 q; exact hk2 q), if_neg (by omega)]
            have hmk : mkd t n k (k + 1) = kd := by
              unfold mkd
              rw [hkd, if_neg hk1, if_neg hk2, hkd3]
              by_cases q : t k = 59
              · rw [if_pos q, if_pos (kd3.mpr q)]
              · rw [if_neg q, if_neg (fun z => q (kd3.mp z))]
            refine (s196 (k + 1) I2 (by omega) (by omega) f2 g1 g2 (Or.inr ⟨h32, he, by rw [hmk]; exact h47, fun q => ?_⟩)).to rfl rfl
            rw [hmk, hkd3] at q
            split at q <;> cases q
        · have c := of_decide_eq_true (bi_t c)
          have hk2 : kdC (t k) = 2 := kd2.mpr c
          rintro r σ ⟨rfl, rfl⟩
          have he : pst (ruP t 2) n k = tkE t n k := by
            unfold tkE
            rw [hkd, hk2, if_pos (Or.inr rfl)]
          obtain ⟨z1, z2, z3, z4⟩ := pst_le (P := ruP t 2) (n := n) (m := n - k) (k := k) (by omega)
          have hgt := tkE_gt (t := t) hlt
          rw [← he] at hgt
          refine (s107 (pst (ruP t 2) n k) I2 hgt z2 (fun i h1 h2 => kd2.mp (of_decide_eq_true (z3 i h1 h2))) hk2 he f2 g1 g2 (pst (ruP t 2) n k - k) k (Nat.le_refl _) (by omega)).to ?_ rfl
          rw [Nat.sub_self]
          rfl
      have s45 : ∀ kd, kd = (if t k = 59 then 3 else 4) → Sat none MX9_split d 117 Q 45 [some (vr 29 0), some (vi (nI k)), some (vi (nI (t k))), some (vi (nI (k + 1))), none, none] [vi (nI kd), vi (nI m), vr 47 0] (S0 I1 J) := fun kd hkd3 => by
        refine Sat.of k_X9_split [80, 196] 60 ?_
        generalize hI2 : uI I1 47 0 m (nI kd) = I2
        have hst : uI I1 47 0 (nI m).toNatClampNeg (nI kd) = I2 := by rw [em, hI2]
        have f2 : frSp I I2 := by rw [← hI2]; exact f1.u (by decide) (by decide)
        have g1 : I2 29 0 27 = nI m := by rw [← hI2, uI_t (by decide)]; exact w1
        have g2 : ∀ j, j < m → TK1 I2 t n j (nthD T0 j (0, 0)) := fun j hj => by rw [← hI2]; exact (w2 j hj).u hj
        refine ⟨hvm, 0, 117, by omega, Nat.le_refl _, (m_in I2 J (nI (t k)) (nI 97) (nI 122) 0).to rfl (congrArg (fun z : SI => (z, J, 117, aT)) hst) ?_⟩
        rintro r σ ⟨rfl, rfl⟩
        rw [in_ab c2 (by decide) (by decide)]
        refine ⟨fun c => ?_, fun c => ⟨1, 117, hd, Nat.le_refl _, (m_rowA I2 J n k t (eX I2 f2) (by omega) 1 (by decide)).mono ?_⟩⟩
        · have c := of_decide_eq_false (bi_f c)
          exact s80 I2 kd f2 g1 g2 (fun q => c (kd1.mp q)) (by rw [← hI2, uI_at]) hkd3
        · have c := of_decide_eq_true (bi_t c)
          have hk1 : kdC (t k) = 1 := kd1.mpr c
          rintro r σ ⟨rfl, rfl⟩
          have he : pst (ruP t 1) n k = tkE t n k := by
            unfold tkE
            rw [hkd, hk1, if_pos (Or.inl rfl)]
          obtain ⟨z1, z2, z3, z4⟩ := pst_le (P := ruP t 1) (n := n) (m := n - k) (k := k) (by omega)
          have hgt := tkE_gt (t := t) hlt
          rw [← he] at hgt
          have hmk : mkd t n k (pst (ruP t 1) n k) = 2 := by
            unfold mkd
            rw [hkd, hk1, if_pos rfl]
          refine ⟨?_, (s196 (pst (ruP t 1) n k) (uI I2 47 0 m (nI 2)) hgt z2 (f2.u (by decide) (by decide)) (by rw [uI_t (by decide)]; exact g1) (fun j hj => (g2 j hj).u hj) (Or.inr ⟨by omega, he, by rw [uI_at, hmk], fun q => by rw [hmk] at q; cases q⟩)).to rfl ?_⟩
          · show vp_in (I2 29 0 27) 160
            rw [g1]
            exact hvm
          · show (uI I2 47 0 (I2 29 0 27).toNatClampNeg (nI 2), J, 117, aT) = _
            rw [g1, em]
      refine Sat.of k_X9_split [7, 45] 60 ?_
      refine ⟨fun c => ?_, fun _ => ⟨vp_in_nI (by omega) (by decide), ?_⟩⟩
      · have c : I1 29 0 22 ≤ nI k := c
        rw [(eX I1 f1).1, nI_leI (by omega) (by omega)] at c
        omega
      · have hgo : ∀ kd, kd = (if t k = 59 then 3 else 4) → Sat none MX9_split d 117 Q 45 [some (vr 29 0), some (vi (nI k)), some (vi (I1 46 0 (nI k).toNatClampNeg)), some (vi (nI k + 1)), none, none] [vi (nI kd), vi (I1 29 0 27), vr 47 0] (S0 I1 J) := fun kd hkd3 => by
          rw [ek, c1, nI_1, w1]
          exact s45 kd hkd3
        refine ⟨fun c => hgo 4 ?_, fun c => hgo 3 ?_⟩
        · have c : ¬ I1 46 0 (nI k).toNatClampNeg = nI 59 := c
          rw [ek, c1] at c
          rw [if_neg (fun e => c (by rw [e]))]
        · have c : I1 46 0 (nI k).toNatClampNeg = nI 59 := c
          rw [ek, c1, nI_eq (by omega) (by decide)] at c
          rw [if_pos c]
  refine Sat.of k_X9_split [7] 60 ?_
  exact (loop n 0 [] (uI I 29 0 27 0) (by omega) (by omega) rfl (by simp) (frSp.u27 ⟨fun _ _ _ => rfl, fun _ _ => rfl⟩) ⟨uI_at, fun j hj => absurd hj (by simp)⟩).to rfl rfl
