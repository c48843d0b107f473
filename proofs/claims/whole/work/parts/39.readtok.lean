/-! The reader: readToken -/
def TS (I : SI) (p e κ v : Nat) : Prop := I 20 0 3 = nI p ∧ I 20 0 4 = nI e ∧ I 20 0 5 = nI κ ∧ (κ = 2 → I 20 0 6 = nI v)
/-- the token at k -/
def TOK (I : SI) (n : Nat) (t : Nat → Nat) (k : Nat) : Prop := TS I (tkP t n k) (tkE t n (tkP t n k)) (kAt t n (tkP t n k)) (vlN t (tkP t n k) (tkE t n (tkP t n k) - tkP t n k))
theorem kdC_2 {c : Nat} (h : kdC c = 2) : 48 ≤ c ∧ c ≤ 57 := by
  unfold kdC at h
  split at h
  · omega
  · split at h
    · assumption
    · split at h <;> omega
theorem tk_le {t : Nat → Nat} {n k : Nat} (h : k ≤ n) : k ≤ tkP t n k ∧ tkP t n k ≤ n ∧ tkP t n k ≤ tkE t n (tkP t n k) ∧ tkE t n (tkP t n k) ≤ n := by
  obtain ⟨h1, h2, h3, h4⟩ := pst_le (P := skP t) (n := n) (m := n - k) (k := k) (by omega)
  have h1 : k ≤ tkP t n k := h1
  have h2 : tkP t n k ≤ n := h2
  refine ⟨h1, h2, ?_⟩
  unfold tkE
  split
  · obtain ⟨g1, g2, _⟩ := pst_le (P := ruP t (kAt t n (tkP t n k))) (n := n) (m := n - tkP t n k) (k := tkP t n k) (by omega)
    exact ⟨g1, g2⟩
  · split
    · exact ⟨Nat.le_refl _, h2⟩
    · rename_i q
      unfold kAt at q
      refine ⟨by omega, ?_⟩
      by_cases e : tkP t n k < n
      · omega
      · rw [if_neg e] at q
        exact absurd rfl q
set_option maxRecDepth 10000 in
theorem c_readToken (I : SI) (J : SJ) (n k : Nat) (t : Nat → Nat) (h : TX I n t) (hk : I 20 0 4 = nI k) (hkn : k ≤ n) (d : Nat) (hd : 1 < d) : Tri d YX6_readToken 117 [vr 20 0] (S0 I J) (fun r σ => r = none ∧ ∃ I1, σ = S0 I1 J ∧ frD I I1 ∧ TOK I1 n t k) := by
  refine Tri.of (M := MX6_readToken) k_X6_readToken ⟨Nat.le_refl _, Nat.le_refl _⟩ (Nat.le_of_ble_eq_true rfl) ?_
  have h2 := h.2.1
  obtain ⟨w1, w2, w3, w4⟩ := tk_le (t := t) hkn
  have sk := pst_le (P := skP t) (n := n) (m := n - k) (k := k) (by omega)
  generalize hQ : (fun (r : Option AV) (σ : ST) => r = none ∧ ∃ I1, σ = S0 I1 J ∧ frD I I1 ∧ TOK I1 n t k) = Q
  generalize hp : tkP t n k = p at *
  have fin : ∀ (I1 : SI) (e : Nat), e = tkE t n p → frD I I1 → I1 20 0 3 = nI p → I1 20 0 4 = nI e → I1 20 0 5 = nI (kAt t n p) → Sat none MX6_readToken d 117 Q 138 [some (vr 20 0)] [] (S0 I1 J) := fun I1 e ee f1 f2 f3 f4 => by
    have hk4 : kAt t n p ≤ 4 := by
      unfold kAt
      split
      · exact (kdC_le _).1
      · decide
    refine Sat.of k_X6_readToken [8, 82] 60 ?_
    refine ⟨fun c => ⟨rfl, rfl, ?_⟩, fun c => ⟨1, 117, hd, Nat.le_refl _, (c_readValue I1 J n p e t (h.fr f1) f2 f3 (by omega) (by omega) (fun i q1 q2 => ?_) 1 (by decide)).mono ?_⟩⟩
    · have c : ¬ I1 20 0 5 = nI 2 := c
      rw [f4] at c
      rw [← hQ]
      refine ⟨rfl, I1, rfl, f1, ?_⟩
      unfold TOK
      rw [hp, ← ee]
      exact ⟨f2, f3, f4, fun q => absurd (by rw [q]) c⟩
    · have c : I1 20 0 5 = nI 2 := c
      rw [f4] at c
      have e2 := (nI_eq (by omega) (by decide)).mp c
      have ee1 := ee
      unfold tkE at ee1
      rw [if_pos (Or.inr e2), e2] at ee1
      obtain ⟨g1, g2, g3, _⟩ := pst_le (P := ruP t 2) (n := n) (m := n - p) (k := p) (by omega)
      have := of_decide_eq_true (g3 i q1 (by omega))
      exact (kdC_2 this).1
    · rintro r σ ⟨rfl, rfl⟩
      refine ⟨rfl, rfl, ?_⟩
      rw [← hQ]
      refine ⟨rfl, _, rfl, f1.u (by decide), ?_⟩
      unfold TOK
      rw [hp, ← ee]
      exact ⟨by rw [uI_j (by decide)]; exact f2, by rw [uI_j (by decide)]; exact f3, by rw [uI_j (by decide)]; exact f4, fun _ => uI_at⟩
  have run : ∀ (m q : Nat) (I1 : SI), q + m = n → (kAt t n p = 1 ∨ kAt t n p = 2) → pst (ruP t (kAt t n p)) n q = tkE t n p → frD I I1 → I1 20 0 3 = nI p → I1 20 0 4 = nI q → I1 20 0 5 = nI (kAt t n p) → Sat none MX6_readToken d 117 Q 82 [some (vr 20 0)] [] (S0 I1 J) := by
    intro m
    induction m with
    | zero =>
      intro q I1 hq hk12 he f1 f2 f3 f4
      refine Sat.of k_X6_readToken [8, 82, 138] 60 ?_
      refine ⟨fun c => fin I1 q (by rw [← he, pst_end (by omega)]) f1 f2 f3 f4, fun c => ?_⟩
      have c : ¬ I1 20 0 2 ≤ I1 20 0 4 := c
      rw [(h.fr f1).1, f3] at c
      exact absurd (nI_le (a := n) (b := q) (by omega) (by omega)) c
    | succ m ih =>
      intro q I1 hq hk12 he f1 f2 f3 f4
      have ekq : kAt t n q = kdC (t q) := by unfold kAt; rw [if_pos (by omega)]
      have hk4 := (kdC_le (t q)).1
      refine Sat.of k_X6_readToken [8, 82, 138] 60 ?_
      refine ⟨fun c => ?_, fun c => ⟨0, 117, by omega, Nat.le_refl _, (c_kindAt I1 J n q t (h.fr f1) (by omega) 0).to ?_ rfl ?_⟩⟩
      · have c : I1 20 0 2 ≤ I1 20 0 4 := c
        rw [(h.fr f1).1, f3, nI_leI (by omega) (by omega)] at c
        omega
      · show [vr 20 0, vi (I1 20 0 4)] = _
        rw [f3]
      · rintro r σ ⟨rfl, rfl⟩
        refine ⟨fun c1 => ?_, fun c1 => ?_⟩
        · have c1 : ¬ nI (kAt t n q) = I1 20 0 5 := c1
          rw [f4, ekq] at c1
          refine fin I1 q ?_ f1 f2 f3 f4
          rw [← he, pst_no]
          exact decide_eq_false (fun e => c1 (by rw [e]))
        · have c1 : nI (kAt t n q) = I1 20 0 5 := c1
          rw [f4, ekq] at c1
          have e := (nI_eq (by omega) (by omega)).mp c1
          refine (ih (q + 1) (uI I1 20 0 4 (nI (q + 1))) (by omega) hk12 (by rw [← he, pst_go (k := q) (by omega) (decide_eq_true e)]) (f1.u (by decide)) (by rw [uI_j (by decide)]; exact f2) uI_at (by rw [uI_j (by decide)]; exact f4)).to rfl ?_
          show (uI I1 20 0 4 (I1 20 0 4 + 1), J, 117, aT) = _
          rw [f3, nI_1]
  have skip : ∀ (m q : Nat) (I1 : SI), q + m = n → pst (skP t) n q = p → frD I I1 → I1 20 0 3 = nI q → Sat none MX6_readToken d 117 Q 8 [some (vr 20 0)] [] (S0 I1 J) := by
    have after : ∀ (I1 : SI), frD I I1 → I1 20 0 3 = nI p → Sat none MX6_readToken d 117 Q 46 [some (vr 20 0)] [] (S0 I1 J) := fun I1 f1 f2 => by
      have hk4 : kAt t n p ≤ 4 := by
        unfold kAt
        split
        · exact (kdC_le _).1
        · decide
      refine Sat.of k_X6_readToken [8, 82, 138] 60 ?_
      refine ⟨0, 117, by omega, Nat.le_refl _, (c_kindAt (uI I1 20 0 4 (I1 20 0 3)) J n p t (h.fr (f1.u (by decide))) (by omega) 0).to ?_ rfl ?_⟩
      · show [vr 20 0, vi (uI I1 20 0 4 (I1 20 0 3) 20 0 3)] = _
        rw [uI_j (by decide), f2]
      rintro r σ ⟨rfl, rfl⟩
      generalize hI2 : uI (uI I1 20 0 4 (I1 20 0 3)) 20 0 5 (nI (kAt t n p)) = I2
      have g1 : frD I I2 := by rw [← hI2]; exact (f1.u (by decide)).u (by decide)
      have g3 : I2 20 0 3 = nI p := by rw [← hI2, uI_j (by decide), uI_j (by decide), f2]
      have g4 : I2 20 0 4 = nI p := by rw [← hI2, uI_j (by decide), uI_at, f2]
      have g5 : I2 20 0 5 = nI (kAt t n p) := by rw [← hI2, uI_at]
      have go : (kAt t n p = 1 ∨ kAt t n p = 2) → Sat none MX6_readToken d 117 Q 82 [some (vr 20 0)] [] (S0 I2 J) := fun e => run (n - p) p I2 (by omega) e (by unfold tkE; rw [if_pos e]) g1 g3 g4 g5
      refine ⟨fun c => ?_, fun c => ⟨fun c1 => ⟨fun c2 => ?_, fun c2 => ?_⟩, fun c1 => ?_⟩⟩
      · have c : I2 20 0 5 = nI 1 := by rw [← hI2]; exact c
        rw [g5] at c
        exact (go (Or.inl ((nI_eq (by omega) (by decide)).mp c))).to rfl (by rw [← hI2])
      · have c2 : I2 20 0 5 = nI 0 := by rw [← hI2]; exact c2
        rw [g5] at c2
        have e := (nI_eq (by omega) (by decide)).mp c2
        exact (fin I2 p (by unfold tkE; rw [if_neg (by omega), if_pos e]) g1 g3 g4 g5).to rfl (by rw [← hI2])
      · have c : ¬ I2 20 0 5 = nI 1 := by rw [← hI2]; exact c
        have c1 : ¬ I2 20 0 5 = nI 2 := by rw [← hI2]; exact c1
        have c2 : ¬ I2 20 0 5 = nI 0 := by rw [← hI2]; exact c2
        rw [g5] at c c1 c2
        have n1 : kAt t n p ≠ 1 := fun e => c (by rw [e])
        have n2 : kAt t n p ≠ 2 := fun e => c1 (by rw [e])
        have n0 : kAt t n p ≠ 0 := fun e => c2 (by rw [e])
        refine (fin (uI I2 20 0 4 (nI (p + 1))) (p + 1) (by unfold tkE; rw [if_neg (by omega), if_neg n0]) (g1.u (by decide)) (by rw [uI_j (by decide)]; exact g3) uI_at (by rw [uI_j (by decide)]; exact g5)).to rfl ?_
        rw [← nI_1, ← g4, ← hI2]
      · have c1 : I2 20 0 5 = nI 2 := by rw [← hI2]; exact c1
        rw [g5] at c1
        exact (go (Or.inr ((nI_eq (by omega) (by decide)).mp c1))).to rfl (by rw [← hI2])
    intro m
    induction m with
    | zero =>
      intro q I1 hq he f1 f2
      have eq : q = p := by rw [← he, pst_end (by omega)]
      subst eq
      refine Sat.of k_X6_readToken [8, 82, 46] 60 ?_
      refine ⟨fun c => after I1 f1 f2, fun c => ?_⟩
      have c : ¬ I1 20 0 2 ≤ I1 20 0 3 := c
      rw [(h.fr f1).1, f2] at c
      exact absurd (nI_le (a := n) (b := q) (by omega) (by omega)) c
    | succ m ih =>
      intro q I1 hq he f1 f2
      obtain ⟨t1, t2⟩ := (h.fr f1).2.2 q (by omega)
      have eq : (I1 20 0 3).toNatClampNeg = q := by rw [f2, nI_clamp (by omega)]
      refine Sat.of k_X6_readToken [8, 82, 46] 60 ?_
      refine ⟨fun c => ?_, fun c => ⟨?_, fun c1 => ?_, fun c1 => ?_⟩⟩
      · have c : I1 20 0 2 ≤ I1 20 0 3 := c
        rw [(h.fr f1).1, f2, nI_leI (by omega) (by omega)] at c
        omega
      · show vp_in (I1 20 0 3) 160
        rw [f2]
        exact vp_in_nI (by omega) (by decide)
      · have c1 : ¬ I1 26 0 (I1 20 0 3).toNatClampNeg = nI 32 := c1
        rw [eq, t1] at c1
        have e2 : q = p := by
          rw [← he, pst_no]
          exact decide_eq_false (fun e => c1 (by rw [e]))
        subst e2
        exact after I1 f1 f2
      · have c1 : I1 26 0 (I1 20 0 3).toNatClampNeg = nI 32 := c1
        rw [eq, t1] at c1
        have e3 := (nI_eq (by omega) (by decide)).mp c1
        refine (ih (q + 1) (uI I1 20 0 3 (nI (q + 1))) (by omega) (by rw [← he, pst_go (k := q) (by omega) (decide_eq_true e3)]) (f1.u (by decide)) uI_at).to rfl ?_
        show (uI I1 20 0 3 (I1 20 0 3 + 1), J, 117, aT) = _
        rw [f2, nI_1]
  refine Sat.of k_X6_readToken [8] 60 ?_
  refine (skip (n - k) k (uI I 20 0 3 (nI k)) (by omega) hp (frD.rf.u (by decide)) uI_at).to rfl ?_
  rw [← hk]
