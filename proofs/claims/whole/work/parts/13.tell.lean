/-! Net: telling -/
def ctr (q : Ob) (x y : Nat) : Nat := (if q.1 = x ∧ q.2.2 = y then q.2.1 else 8191) &&& (if q.1 = y ∧ q.2.2 = x then trn q.2.1 else 8191)
/-- what the first k observations tell, but for those that are gone -/
def tldN (L : List Ob) (g : Nat → Bool) : Nat → Nat → Nat → Nat
  | 0, _, _ => 8191
  | k + 1, x, y => tldN L g k x y &&& (if g k then 8191 else ctr (nthD L k (0, 0, 0)) x y)
def tolN (L : List Ob) (g : Nat → Bool) (k x y : Nat) : Nat := if x = y then 64 else tldN L g k x y
def tol (L : List Ob) (g : Nat → Bool) (x y : Nat) : Nat := tolN L g L.length x y
def WFo (ev : Nat) (L : List Ob) : Prop := ∀ j, j < L.length → (nthD L j (0, 0, 0)).1 < ev ∧ (nthD L j (0, 0, 0)).2.2 < ev ∧ (nthD L j (0, 0, 0)).1 ≠ (nthD L j (0, 0, 0)).2.2 ∧ 1 ≤ (nthD L j (0, 0, 0)).2.1 ∧ (nthD L j (0, 0, 0)).2.1 < 8192
theorem and_all {a : Nat} (h : a < 8192) : a &&& 8191 = a := Sub.antisymm Sub.and_l (Sub.and Sub.rf (Sub.all h))
theorem all_and {a : Nat} (h : a < 8192) : 8191 &&& a = a := by rw [Nat.and_comm]; exact and_all h
theorem ctr_lt {q : Ob} {x y : Nat} (h : q.2.1 < 8192) : ctr q x y < 8192 := by
  unfold ctr
  apply and_lt13
  split
  · exact h
  · decide
theorem ctr_sym {q : Ob} {x y : Nat} (h : q.2.1 < 8192) : ctr q y x = trn (ctr q x y) := by
  unfold ctr
  rw [trn_and, Nat.and_comm]
  by_cases h1 : q.1 = x ∧ q.2.2 = y
  · by_cases h2 : q.1 = y ∧ q.2.2 = x
    · rw [if_pos h1, if_pos h2, if_pos h1, if_pos h2, trn_trn h]
    · rw [if_pos h1, if_neg h2, if_pos h1, if_neg h2, trn_all]
  · by_cases h2 : q.1 = y ∧ q.2.2 = x
    · rw [if_neg h1, if_pos h2, if_neg h1, if_pos h2, trn_all, trn_trn h]
    · rw [if_neg h1, if_neg h2, if_neg h1, if_neg h2, trn_all]
theorem tldN_lt {L : List Ob} {g : Nat → Bool} {x y : Nat} : ∀ {k : Nat}, tldN L g k x y < 8192
  | 0 => by show (8191 : Nat) < 8192; decide
  | k + 1 => and_lt13 tldN_lt
theorem tldN_sym {L : List Ob} {g : Nat → Bool} {ev : Nat} (hw : WFo ev L) : ∀ {k : Nat} {x y : Nat}, k ≤ L.length → tldN L g k y x = trn (tldN L g k x y)
  | 0, x, y, _ => trn_all.symm
  | k + 1, x, y, hk => by
    simp only [tldN]
    rw [trn_and, tldN_sym hw (by omega)]
    congr 1
    split
    · exact trn_all.symm
    · exact ctr_sym (hw k (by omega)).2.2.2.2
theorem tolN_lt {L : List Ob} {g : Nat → Bool} {k x y : Nat} : tolN L g k x y < 8192 := by
  unfold tolN
  split
  · decide
  · exact tldN_lt
theorem tolN_sym {L : List Ob} {g : Nat → Bool} {ev k x y : Nat} (hw : WFo ev L) (hk : k ≤ L.length) : tolN L g k y x = trn (tolN L g k x y) := by
  unfold tolN
  by_cases h : x = y
  · rw [if_pos h, if_pos h.symm, trn_64]
  · rw [if_neg h, if_neg (fun e => h e.symm)]
    exact tldN_sym hw hk
/-- one observation more -/
theorem tolN_step {L : List Ob} {g : Nat → Bool} {ev k : Nat} (hw : WFo ev L) (hk : k < L.length) (hg : g k = false) (a b : Nat) : putN (tolN L g k) (nthD L k (0, 0, 0)).1 (nthD L k (0, 0, 0)).2.2 (tolN L g k (nthD L k (0, 0, 0)).1 (nthD L k (0, 0, 0)).2.2 &&& (nthD L k (0, 0, 0)).2.1) a b = tolN L g (k + 1) a b := by
  obtain ⟨w1, w2, w3, w4, w5⟩ := hw k hk
  generalize hq : nthD L k (0, 0, 0) = q at *
  obtain ⟨x, v, y⟩ := q
  simp only at w1 w2 w3 w4 w5 ⊢
  unfold putN
  by_cases e1 : a = y ∧ b = x
  · obtain ⟨rfl, rfl⟩ := e1
    rw [if_pos ⟨rfl, rfl⟩, trn_and]
    unfold tolN
    rw [if_neg w3, if_neg (fun e => w3 e.symm)]
    simp only [tldN]
    rw [hg, hq, ← tldN_sym hw (by omega)]
    simp only [Bool.false_eq_true, if_false, ctr]
    rw [if_neg (fun e => w3 e.1), if_pos (by simp), all_and trn_lt]
  · rw [if_neg e1]
    by_cases e2 : a = x ∧ b = y
    · obtain ⟨rfl, rfl⟩ := e2
      rw [if_pos ⟨rfl, rfl⟩]
      unfold tolN
      rw [if_neg w3, if_neg w3]
      simp only [tldN]
      rw [hg, hq]
      simp only [Bool.false_eq_true, if_false, ctr]
      rw [if_pos (by simp), if_neg (fun e => w3 e.1), and_all w5]
    · rw [if_neg e2]
      unfold tolN
      by_cases e3 : a = b
      · rw [if_pos e3, if_pos e3]
      · rw [if_neg e3, if_neg e3]
        simp only [tldN]
        rw [hg, hq]
        simp only [Bool.false_eq_true, if_false, ctr]
        rw [if_neg (fun e => e2 ⟨e.1.symm, e.2.symm⟩), if_neg (fun e => e1 ⟨e.2.symm, e.1.symm⟩), all_and (by decide), and_all tldN_lt]
theorem tolN_gone {L : List Ob} {g : Nat → Bool} {k : Nat} (hg : g k = true) (a b : Nat) : tolN L g k a b = tolN L g (k + 1) a b := by
  unfold tolN
  split
  · rfl
  · simp only [tldN]
    rw [hg, if_pos rfl, and_all tldN_lt]
theorem zero_put {ev x y v : Nat} {N : Nat → Nat → Nat} (hx : x < ev) (hy : y < ev) (hv : v < 8192) (hN : ∀ a b, a < ev → b < ev → N b a = trn (N a b) ∧ N a b < 8192) : (ZERO ev N ∨ N x y &&& v = 0) ↔ ZERO ev (putN N x y (N x y &&& v)) := by
  have hlt : N x y &&& v < 8192 := and_lt13 (hN x y hx hy).2
  constructor
  · rintro (⟨a, b, ha, hb, h⟩ | h)
    · refine ⟨a, b, ha, hb, ?_⟩
      unfold putN
      split
      · rename_i e
        obtain ⟨rfl, rfl⟩ := e
        have : N b a = 0 := by rw [(hN a b ha hb).1, h, trn_0]
        rw [this]
        simp [trn_0]
      · split
        · rename_i e
          obtain ⟨rfl, rfl⟩ := e
          rw [h]
          simp
        · exact h
    · refine ⟨x, y, hx, hy, ?_⟩
      unfold putN
      split
      · rw [h, trn_0]
      · rw [if_pos ⟨rfl, rfl⟩]; exact h
  · rintro ⟨a, b, ha, hb, h⟩
    unfold putN at h
    split at h
    · exact Or.inr ((trn_eq0 hlt).mp h)
    · split at h
      · exact Or.inr h
      · exact Or.inl ⟨a, b, ha, hb, h⟩
/-- the net, and whether it is barren -/
def NTZ (I : SI) (n ev : Nat) (N : Nat → Nat → Nat) : Prop := ∃ bar, NT I n ev N bar ∧ (bar = true ↔ ZERO ev N)
set_option maxRecDepth 10000 in
set_option maxHeartbeats 1000000 in
theorem c_tell (I : SI) (J : SJ) (n b ev g : Nat) (L : List Ob) (hA : ALG I) (hB : BK I b ev L) (hw : WFo ev L) (hg : g < 2 ^ 31) (d : Nat) (hd : 2 < d) : Tri d YX4_tell 117 [vr 16 n, vr 3 b, vi (nI g)] (S0 I J) (fun r σ => r = none ∧ ∃ I1, σ = S0 I1 J ∧ NTZ I1 n ev (tol L g.testBit) ∧ frN n I I1) := by
  refine Tri.of (M := MX4_tell) k_X4_tell ⟨Nat.le_refl _, Nat.le_refl _⟩ (Nat.le_of_ble_eq_true rfl) ?_
  obtain ⟨b1, b2, b3, b4, b5, b6⟩ := hB
  generalize hQ : (fun (r : Option AV) (σ : ST) => r = none ∧ ∃ I1, σ = S0 I1 J ∧ NTZ I1 n ev (tol L g.testBit) ∧ frN n I I1) = Q
  -- the observations, one by one
  have loop2 : ∀ (m k : Nat) (I1 : SI), k + m = L.length → frN n I I1 → NTZ I1 n ev (tolN L g.testBit k) → ∀ v4, Sat none MX4_tell d 117 Q 74 [some (vr 16 n), some (vr 3 b), some (vi (nI g)), some (vi (nI k)), v4] [] (S0 I1 J) := by
    intro m
    induction m with
    | zero =>
      intro k I1 hk hf hN v4
      have hk : k = L.length := by omega
      subst hk
      have f3 : I1 3 b 3 = nI L.length := by rw [hf 3 b (by omega)]; exact b2
      refine Sat.of k_X4_tell [74] 60 ?_
      refine ⟨fun c => ⟨rfl, rfl, ?_⟩, fun c => ?_⟩
      · rw [← hQ]
        exact ⟨rfl, I1, rfl, hN, hf⟩
      · have c : ¬ I1 3 b 3 ≤ nI L.length := c
        rw [f3] at c
        exact absurd (nI_le (Nat.le_refl _) (by omega)) c
    | succ m ih =>
      intro k I1 hk hf hN v4
      have f3 : I1 3 b 3 = nI L.length := by rw [hf 3 b (by omega)]; exact b2
      have f4 : I1 4 b = I 4 b := hf 4 b (by omega)
      have f5 : I1 5 b = I 5 b := hf 5 b (by omega)
      have f6 : I1 6 b = I 6 b := hf 6 b (by omega)
      obtain ⟨p1, p2, p3⟩ := b6 k (by omega)
      obtain ⟨w1, w2, w3, w4, w5⟩ := hw k (by omega)
      have e0 : (nI k).toNatClampNeg = k := nI_clamp (by omega)
      refine Sat.of k_X4_tell [74] 60 ?_
      refine ⟨fun c => ?_, fun c => ⟨fun c2 => ?_, fun c2 => ⟨vp_in_nI (by omega) (by omega), vp_in_nI (by omega) (by omega), vp_in_nI (by omega) (by omega), 2, 117, hd, Nat.le_refl _, ?_⟩⟩⟩
      · have c : I1 3 b 3 ≤ nI k := c
        rw [f3] at c
        exact absurd ((nI_leI (by omega) (by omega)).mp c) (by omega)
      · have c2 : ¬ (nI g >>> (nI k &&& 31)) &&& 1 = 0 := c2
        rw [nx_bit hg (by omega)] at c2
        have hgt := bi_t c2
        refine (ih (k + 1) I1 (by omega) hf ?_ v4).to (by rw [← nI_1]; rfl) rfl
        obtain ⟨bar, q1, q2⟩ := hN
        refine ⟨bar, q1.congr (fun x y _ _ => (tolN_gone hgt x y).symm), ?_⟩
        rw [q2]
        constructor
        · rintro ⟨x, y, h1, h2, h3⟩; exact ⟨x, y, h1, h2, by rw [← tolN_gone hgt]; exact h3⟩
        · rintro ⟨x, y, h1, h2, h3⟩; exact ⟨x, y, h1, h2, by rw [tolN_gone hgt]; exact h3⟩
      · have c2 : (nI g >>> (nI k &&& 31)) &&& 1 = 0 := c2
        rw [nx_bit hg (by omega)] at c2
        have hgf := bi_f c2
        obtain ⟨bar, q1, q2⟩ := hN
        refine (c_hold I1 J n ev _ _ (nthD L k (0, 0, 0)).2.1 (tolN L g.testBit k) bar (hA.fr hf) q1 w1 w2 2 (by omega)).to ?_ rfl ?_
        · show [vr 16 n, vi (I1 4 b (nI k).toNatClampNeg), vi (I1 5 b (nI k).toNatClampNeg), vi (I1 6 b (nI k).toNatClampNeg)] = _
          rw [e0, f4, f5, f6, p1, p2, p3]
        · rintro r σ ⟨rfl, I2, rfl, z1, z2⟩
          refine (ih (k + 1) I2 (by omega) (hf.tr z2) ⟨_, z1.congr (fun x y _ _ => (tolN_step hw (by omega) hgf x y).symm), ?_⟩ v4).to (by rw [← nI_1]; rfl) rfl
          have hz := zero_put (N := tolN L g.testBit k) w1 w2 w5 (fun a c _ _ => ⟨tolN_sym hw (by omega), tolN_lt⟩)
          rw [Bool.or_eq_true, q2, decide_eq_true_eq, hz]
          constructor
          · rintro ⟨x, y, h1, h2, h3⟩; exact ⟨x, y, h1, h2, by rw [← tolN_step hw (by omega) hgf]; exact h3⟩
          · rintro ⟨x, y, h1, h2, h3⟩; exact ⟨x, y, h1, h2, by rw [tolN_step hw (by omega) hgf]; exact h3⟩
  -- all sets as they are before anything is told
  have loop1 : ∀ (m x : Nat) (I1 : SI), x + m = ev → frN n I I1 → I1 16 n 2 = nI ev → I1 16 n 3 = 0 → (∀ a c, a < x → c < ev → I1 17 n (5 * a + c) = nI (if a = c then 64 else 8191)) → ∀ v4, Sat none MX4_tell d 117 Q 15 [some (vr 16 n), some (vr 3 b), some (vi (nI g)), some (vi (nI x)), v4] [] (S0 I1 J) := by
    intro m
    induction m with
    | zero =>
      intro x I1 hx hf g1 g2 g3 v4
      have hx : x = ev := by omega
      subst hx
      refine Sat.of k_X4_tell [15, 74] 60 ?_
      refine ⟨fun c => ?_, fun c => ?_⟩
      · refine loop2 L.length 0 I1 (by omega) hf ⟨false, ⟨g1, g2, b4, b5, fun a c ha hc => ?_⟩, ?_⟩ v4
        · rw [g3 a c ha hc]
          exact ⟨rfl, tolN_lt⟩
        · constructor
          · intro h; cases h
          · rintro ⟨a, c, _, _, h⟩
            unfold tolN tldN at h
            split at h <;> cases h
      · have c : ¬ I1 16 n 2 ≤ nI x := c
        rw [g1] at c
        exact absurd (nI_le (Nat.le_refl _) (by omega)) c
    | succ m ih =>
      intro x I1 hx hf g1 g2 g3 v4
      have inner : ∀ (m2 y : Nat) (I2 : SI), y + m2 = ev → frN n I I2 → I2 16 n 2 = nI ev → I2 16 n 3 = 0 → (∀ a c, (a < x ∧ c < ev) ∨ (a = x ∧ c < y) → I2 17 n (5 * a + c) = nI (if a = c then 64 else 8191)) → Sat none MX4_tell d 117 Q 26 [some (vr 16 n), some (vr 3 b), some (vi (nI g)), some (vi (nI x)), some (vi (nI y))] [] (S0 I2 J) := by
        intro m2
        induction m2 with
        | zero =>
          intro y I2 hy hf2 r1 r2 r3
          have hy : y = ev := by omega
          subst hy
          refine Sat.of k_X4_tell [15, 26, 74] 60 ?_
          refine ⟨fun c => ?_, fun c => ?_⟩
          · refine (ih (x + 1) I2 (by omega) hf2 r1 r2 (fun a c ha hc => r3 a c ?_) (some (vi (nI y)))).to (by rw [← nI_1]; rfl) rfl
            omega
          · have c : ¬ I2 16 n 2 ≤ nI y := c
            rw [r1] at c
            exact absurd (nI_le (Nat.le_refl _) (by omega)) c
        | succ m2 ih2 =>
          intro y I2 hy hf2 r1 r2 r3
          have e0 : (nI x * 5 + nI y).toNatClampNeg = 5 * x + y := by rw [ix5, nI_clamp (by omega)]
          have hv : vp_in (nI x * 5 + nI y) 25 := by rw [ix5]; exact vp_in_nI (by omega) (by omega)
          have next : ∀ w : Nat, w = (if x = y then 64 else 8191) → Sat none MX4_tell d 117 Q 26 [some (vr 16 n), some (vr 3 b), some (vi (nI g)), some (vi (nI x)), some (vi (nI y + 1))] [] (S0 (uI I2 17 n (nI x * 5 + nI y).toNatClampNeg (nI w)) J) := by
            intro w hw2
            rw [e0, nI_1]
            refine ih2 (y + 1) (uI I2 17 n (5 * x + y) (nI w)) (by omega) (hf2.u (Or.inr rfl)) (by rw [uI_t (by decide)]; exact r1) (by rw [uI_t (by decide)]; exact r2) (fun a c hac => ?_)
            by_cases e : 5 * a + c = 5 * x + y
            · obtain ⟨rfl, rfl⟩ := ix5_inj (by omega) (by omega) e
              rw [uI_at, hw2]
            · rw [uI_j e]
              apply r3
              rcases hac with h | h
              · exact Or.inl h
              · refine Or.inr ⟨h.1, ?_⟩
                have : c ≠ y := fun q => e (by rw [h.1, q])
                omega
          refine Sat.of k_X4_tell [15, 26, 74] 60 ?_
          refine ⟨fun c => ?_, fun c => ⟨fun c2 => ⟨hv, ?_⟩, fun c2 => ⟨hv, ?_⟩⟩⟩
          · have c : I2 16 n 2 ≤ nI y := c
            rw [r1] at c
            exact absurd ((nI_leI (by omega) (by omega)).mp c) (by omega)
          · have c2 : ¬ nI x = nI y := c2
            exact next 8191 (by rw [if_neg (fun e => c2 (by rw [e]))])
          · have c2 : nI x = nI y := c2
            exact next 64 (by rw [if_pos ((nI_eq (by omega) (by omega)).mp c2)])
      refine Sat.of k_X4_tell [15, 26, 74] 60 ?_
      refine ⟨fun c => ?_, fun c => ?_⟩
      · have c : I1 16 n 2 ≤ nI x := c
        rw [g1] at c
        exact absurd ((nI_leI (by omega) (by omega)).mp c) (by omega)
      · exact inner ev 0 I1 (by omega) hf g1 g2 (fun a c hac => g3 a c (by omega) (by omega))
  refine Sat.of k_X4_tell [15] 60 ?_
  refine ⟨Or.inl rfl, ?_⟩
  refine (loop1 ev 0 (uI (uI I 16 n 2 (nI ev)) 16 n 3 0) (by omega) ((frN.rf.u (Or.inl rfl)).u (Or.inl rfl)) (by rw [uI_j (by decide), uI_at]) uI_at (fun a c ha _ => absurd ha (by omega)) none).to rfl ?_
  show (uI (uI I 16 n 2 (I 3 b 4)) 16 n 3 0, J, 117, aT) = _
  rw [b1]
