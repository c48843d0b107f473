/-! Findings: eldest -/
theorem sols_all {N : NF} {ev : Nat} {l : HS} (h5 : ev ≤ 5) (hl : GOOD N (PRb 0 ev) l) : ∃ l1, l1 ∈ sols ev N ∧ ∀ q, q < PRb 0 ev → l1 q = l q := by
  have p10 := PRb0_le ev (by omega)
  have hm : ∀ (m i r : Nat) (f : Nat → List HS) (a : HS), i ≤ r → r < i + m → a ∈ f r → a ∈ catF f i m := by
    intro m
    induction m with
    | zero => intro i r f a h1 h2; omega
    | succ m ihm =>
      intro i r f a h1 h2 h3
      simp only [catF, List.mem_append]
      by_cases e : r = i
      · subst e; exact Or.inl h3
      · exact Or.inr (ihm (i + 1) r f a (by omega) (by omega) h3)
  have key : ∀ (k p : Nat) (l0 : HS), p + k = PRb 0 ev → (∀ q, q < p → l0 q = l q) → ∃ l1, l1 ∈ ext N k p l0 ∧ ∀ q, q < PRb 0 ev → l1 q = l q := by
    intro k
    induction k with
    | zero =>
      intro p l0 hp hq
      exact ⟨l0, by simp [ext], fun q hq1 => hq q (by omega)⟩
    | succ k ih =>
      intro p l0 hp hq
      have g := hl p (by omega)
      obtain ⟨l1, q1, q2⟩ := ih (p + 1) (put1 l0 p (l p)) (by omega) (fun q hq1 => by
        by_cases eq : q = p
        · rw [eq, put1_at]
        · rw [put1_ne eq]; exact hq q (by omega))
      refine ⟨l1, hm 13 0 (l p) _ l1 (by omega) (by omega) ?_, q2⟩
      rw [agP_congr (l := l) (by omega) hq, if_pos g.2]
      exact q1
  exact key (PRb 0 ev) 0 h00 (by omega) (fun q hq => absurd hq (by omega))
theorem relH_congr {l l1 : HS} {ev x y : Nat} (h5 : ev ≤ 5) (h : ∀ q, q < PRb 0 ev → l1 q = l q) (hx : x < ev) (hy : y < ev) (hxy : x ≠ y) : relH l1 x y = relH l x y := by
  unfold relH
  rcases Nat.lt_or_gt_of_ne hxy with q | q
  · rw [if_pos q, if_pos q, h _ (pr0_lt ev (by omega) y hy x q)]
  · rw [if_neg (by omega), if_neg (by omega), h _ (pr0_lt ev (by omega) x hx y q)]
theorem putN_sym {ev : Nat} {N : NF} (hs : SYM ev N) {x y v : Nat} (hxy : x ≠ y) (hv : v < 8192) : SYM ev (putN N x y v) := by
  refine ⟨fun a b ha hb => ?_, fun a ha => ?_⟩
  · unfold putN
    by_cases e1 : a = x ∧ b = y
    · obtain ⟨rfl, rfl⟩ := e1
      rw [if_pos ⟨rfl, rfl⟩, if_neg (fun e => hxy e.1), if_pos ⟨rfl, rfl⟩]
      exact ⟨rfl, hv⟩
    · by_cases e2 : a = y ∧ b = x
      · obtain ⟨rfl, rfl⟩ := e2
        rw [if_neg (fun e => hxy e.1), if_pos ⟨rfl, rfl⟩, if_pos ⟨rfl, rfl⟩, trn_trn hv]
        exact ⟨rfl, trn_lt⟩
      · rw [if_neg (fun e => e1 ⟨e.2, e.1⟩), if_neg (fun e => e2 ⟨e.2, e.1⟩), if_neg e2, if_neg e1]
        exact hs.1 a b ha hb
  · unfold putN
    rw [if_neg (fun e => hxy (e.2.symm.trans e.1)), if_neg (fun e => hxy (e.1.symm.trans e.2))]
    exact hs.2 a ha
theorem putN_at {N : NF} {x y v : Nat} (hxy : x ≠ y) : putN N x y v x y = v := by
  unfold putN
  rw [if_neg (fun e => hxy e.1), if_pos ⟨rfl, rfl⟩]
theorem putN_ta {N : NF} {x y v : Nat} : putN N x y v y x = trn v := by
  unfold putN
  rw [if_pos ⟨rfl, rfl⟩]
theorem putN_ne {N : NF} {x y v a b : Nat} (h1 : ¬ (a = x ∧ b = y)) (h2 : ¬ (a = y ∧ b = x)) : putN N x y v a b = N a b := by
  unfold putN
  rw [if_neg h2, if_neg h1]
theorem trn_sub {a b : Nat} (h : Sub a b) : Sub (trn a) (trn b) := fun c hc => by
  rw [trn_bit] at hc ⊢
  exact ⟨hc.1, h _ hc.2⟩
theorem putN_le {ev : Nat} {N : NF} (hs : SYM ev N) {x y v : Nat} (hx : x < ev) (hy : y < ev) (hxy : x ≠ y) (hv : Sub v (N x y)) : LE ev (putN N x y v) N := fun a b ha hb => by
  by_cases e1 : a = x ∧ b = y
  · obtain ⟨rfl, rfl⟩ := e1
    rw [putN_at hxy]
    exact hv
  · by_cases e2 : a = y ∧ b = x
    · obtain ⟨rfl, rfl⟩ := e2
      rw [putN_ta, (hs.1 b a hx hy).1]
      exact trn_sub hv
    · rw [putN_ne e1 e2]
      exact Sub.rf
theorem putN_zero {ev : Nat} {N : NF} (hs : SYM ev N) {x y v : Nat} (hx : x < ev) (hy : y < ev) (hxy : x ≠ y) (hv : Sub v (N x y)) : ZERO ev (putN N x y v) ↔ ZERO ev N ∨ v = 0 := by
  have hvl : v < 8192 := Nat.lt_of_le_of_lt (show v ≤ 8191 from by
    have e : v &&& 8191 = v := Sub.antisymm Sub.and_l (Sub.and Sub.rf (hv.tr (Sub.all (hs.1 x y hx hy).2)))
    rw [← e]
    exact Nat.and_le_right) (by decide)
  constructor
  · rintro ⟨a, b, ha, hb, h0⟩
    by_cases e1 : a = x ∧ b = y
    · obtain ⟨rfl, rfl⟩ := e1
      rw [putN_at hxy] at h0
      exact Or.inr h0
    · by_cases e2 : a = y ∧ b = x
      · obtain ⟨rfl, rfl⟩ := e2
        rw [putN_ta] at h0
        exact Or.inr ((trn_eq0 hvl).mp h0)
      · rw [putN_ne e1 e2] at h0
        exact Or.inl ⟨a, b, ha, hb, h0⟩
  · rintro (⟨a, b, ha, hb, h0⟩ | h0)
    · refine ⟨a, b, ha, hb, Sub.zero ?_⟩
      rw [← h0]
      exact putN_le hs hx hy hxy hv a b ha hb
    · exact ⟨x, y, hx, hy, by rw [putN_at hxy, h0]⟩
/-- a history agrees with less, if it has what is put -/
theorem GOOD.put_t {ev : Nat} {N : NF} (h5 : ev ≤ 5) (hs : SYM ev N) {x y v : Nat} (hx : x < ev) (hy : y < ev) (hxy : x ≠ y) (hv : Sub v (N x y)) (hvl : v < 8192) {l : HS} : GOOD (putN N x y v) (PRb 0 ev) l ↔ GOOD N (PRb 0 ev) l ∧ v.testBit (relH l x y) = true := by
  have hs1 := putN_sym hs hxy hvl
  constructor
  · intro h
    refine ⟨h.mono h5 (putN_le hs hx hy hxy hv) hs1, ?_⟩
    have := AT_le h h5 hs1 x y hx hy (relH l x y) (by unfold AT; rw [if_neg hxy]; exact two_bit)
    rw [putN_at hxy] at this
    exact this
  · rintro ⟨h, hb⟩
    refine h.of h5 (fun a b ha hb1 c hc => ?_)
    by_cases e1 : a = x ∧ b = y
    · obtain ⟨rfl, rfl⟩ := e1
      unfold AT at hc
      rw [if_neg hxy, pow_bit] at hc
      subst hc
      rw [putN_at hxy]
      exact hb
    · by_cases e2 : a = y ∧ b = x
      · obtain ⟨rfl, rfl⟩ := e2
        unfold AT at hc
        rw [if_neg (Ne.symm hxy), pow_bit] at hc
        have hl := h.l13 h5
        have := relH_sw hl hx hy hxy
        have h13 := hl.rel hx hy
        rw [putN_ta, trn_bit]
        refine ⟨by omega, ?_⟩
        rw [show 12 - c = relH l b a by omega]
        exact hb
      · rw [putN_ne e1 e2]
        exact AT_le h h5 hs a b ha hb1 c hc
set_option maxRecDepth 10000 in
theorem c_closeB (I : SI) (J : SJ) (n ev p : Nat) (N : NF) (h : NT I n ev N true) (hp : 0 < p) (hp1 : p < 1024) (d : Nat) (hd : 0 < d) : Tri d YX4_close 117 [vr 16 n, vi (nI p)] (S0 I J) (fun r σ => r = none ∧ ∃ I1, σ = S0 I1 J ∧ NT I1 n ev (fun _ _ => 0) true ∧ frN n I I1) := by
  refine Tri.of (M := MX4_close) k_X4_close ⟨Nat.le_refl _, Nat.le_refl _⟩ (Nat.le_of_ble_eq_true rfl) ?_
  have emp : Tri 0 YX4_empty 117 [vr 16 n] (S0 I J) (fun r σ => r = none ∧ ∃ I1, σ = S0 I1 J ∧ NT I1 n ev (fun _ _ => 0) true ∧ frN n I I1) := (c_empty I J n ev h.1 h.2.2.1 h.2.2.2.1 0).mono (by
    rintro r σ ⟨rfl, I1, rfl, q1, _, q3⟩
    exact ⟨rfl, I1, rfl, q1, q3⟩)
  have hb : ¬ I 16 n 3 = 0 := by rw [h.2.1]; decide
  refine Sat.of k_X4_close [] 30 ?_
  refine ⟨fun c => absurd (show nI 2000 ≤ nI 0 from c) (by decide), fun c => ⟨fun c1 => ?_, fun c1 => ⟨fun c2 => ⟨fun c3 => absurd c3 hb, fun c3 => ⟨0, 117, hd, Nat.le_refl _, emp.mono ?_⟩⟩, fun c2 => absurd c2 hb⟩⟩⟩
  · have c1 : nI p = nI 0 := c1
    exact absurd ((nI_eq (by omega) (by decide)).mp c1) (by omega)
  · rintro r σ ⟨rfl, I1, rfl, q1, q2⟩
    exact ⟨rfl, rfl, rfl, I1, rfl, q1, q2⟩
/-- x begins no later than each other one -/
def eld1 (ev : Nat) (l : HS) (x n : Nat) : Bool := allN n (fun y => decide (x = y) || (975 : Nat).testBit (relH l x y))
def eldB (ev : Nat) (T : List HS) (x : Nat) : Bool := T.any (fun l => eld1 ev l x ev)
def eldN (ev : Nat) (T : List HS) : Nat → Nat
  | 0 => 0
  | x + 1 => if eldB ev T x then eldN ev T x ||| 2 ^ x else eldN ev T x
def hN (N : NF) (x : Nat) : Nat → NF
  | 0 => N
  | y + 1 => if x = y then hN N x y else putN (hN N x y) x y (hN N x y x y &&& 975)
theorem hN_sym {ev : Nat} {N : NF} (hs : SYM ev N) {x : Nat} (hx : x < ev) : ∀ {y : Nat}, y ≤ ev → SYM ev (hN N x y)
  | 0, _ => hs
  | y + 1, hy => by
    have h := hN_sym hs hx (y := y) (by omega)
    simp only [hN]
    split
    · exact h
    · rename_i e
      exact putN_sym h e (and_lt13 (h.1 x y hx (by omega)).2)
theorem hN_good {ev : Nat} {N : NF} (h5 : ev ≤ 5) (hs : SYM ev N) {x : Nat} (hx : x < ev) {l : HS} : ∀ {y : Nat}, y ≤ ev → (GOOD (hN N x y) (PRb 0 ev) l ↔ GOOD N (PRb 0 ev) l ∧ eld1 ev l x y = true)
  | 0, _ => by
    simp only [hN]
    exact ⟨fun h => ⟨h, rfl⟩, fun h => h.1⟩
  | y + 1, hy => by
    have h := hN_sym hs hx (y := y) (by omega)
    have ih := hN_good h5 hs hx (l := l) (y := y) (by omega)
    have e2 : eld1 ev l x (y + 1) = (eld1 ev l x y && (decide (x = y) || (975 : Nat).testBit (relH l x y))) := rfl
    simp only [hN]
    by_cases e : x = y
    · rw [if_pos e, ih, e2, decide_eq_true e, Bool.true_or, Bool.and_true]
    · rw [if_neg e, GOOD.put_t h5 h hx (by omega) e Sub.and_l (and_lt13 (h.1 x y hx (by omega)).2), ih, e2, decide_eq_false e, Bool.false_or, Bool.and_eq_true, Nat.testBit_and, Bool.and_eq_true]
      constructor
      · rintro ⟨⟨a, b⟩, c, d⟩
        exact ⟨a, b, d⟩
      · rintro ⟨a, b, d⟩
        have hg := ih.mpr ⟨a, b⟩
        refine ⟨⟨a, b⟩, ?_, d⟩
        exact AT_le hg h5 h x y hx (by omega) (relH l x y) (by unfold AT; rw [if_neg e]; exact two_bit)
theorem eldB_t {ev : Nat} {N : NF} (h5 : ev ≤ 5) {x : Nat} (hx : x < ev) : eldB ev (sols ev N) x = true ↔ ∃ l, GOOD N (PRb 0 ev) l ∧ eld1 ev l x ev = true := by
  unfold eldB
  rw [List.any_eq_true]
  constructor
  · rintro ⟨l, h1, h2⟩
    exact ⟨l, sols_good h5 h1, h2⟩
  · rintro ⟨l, h1, h2⟩
    obtain ⟨l1, q1, q2⟩ := sols_all h5 h1
    refine ⟨l1, q1, ?_⟩
    unfold eld1 at h2 ⊢
    rw [allN_t] at h2 ⊢
    intro y hy
    have := h2 y hy
    by_cases e : x = y
    · rw [decide_eq_true e, Bool.true_or]
    · rw [relH_congr h5 q2 hx hy e]
      exact this
