/-! Histories of a net, and of the net closed -/
def TRI (l : HS) (a b c : Nat) : Prop := (TT (relH l a b) (relH l b c)).testBit (relH l a c) = true
def L13 (ev : Nat) (l : HS) : Prop := ∀ y, y < ev → ∀ x, x < y → l (PRb x y) < 13
theorem L13.rel {ev : Nat} {l : HS} (h : L13 ev l) {x y : Nat} (_ : x < ev) (hy : y < ev) : relH l x y < 13 := relH_lt (fun q => h y hy x q)
theorem relH_sw {ev : Nat} {l : HS} (h : L13 ev l) {x y : Nat} (hx : x < ev) (hy : y < ev) (hxy : x ≠ y) : relH l y x = 12 - relH l x y := by
  unfold relH
  rcases Nat.lt_or_gt_of_ne hxy with q | q
  · rw [if_neg (by omega), if_pos q]
  · have := h x hx y q
    rw [if_pos q, if_neg (by omega)]
    omega
theorem TRI.s1 {ev : Nat} {l : HS} (h : L13 ev l) {a b c : Nat} (ha : a < ev) (hb : b < ev) (hc : c < ev) (hab : a ≠ b) (hbc : b ≠ c) (hac : a ≠ c) (t : TRI l a b c) : TRI l c b a := by
  unfold TRI at t ⊢
  rw [relH_sw h hb hc hbc, relH_sw h ha hb hab, relH_sw h ha hc hac, ← tt_turn _ (h.rel ha hb) _ (h.rel hb hc) _ (h.rel ha hc)]
  exact t
theorem TRI.s2 {ev : Nat} {l : HS} (h : L13 ev l) {a b c : Nat} (ha : a < ev) (hb : b < ev) (hc : c < ev) (hab : a ≠ b) (t : TRI l a b c) : TRI l b a c := by
  unfold TRI at t ⊢
  rw [relH_sw h ha hb hab, ← tt_peirce _ (h.rel ha hb) _ (h.rel hb hc) _ (h.rel ha hc)]
  exact t
theorem GOOD.l13 {N : NF} {ev : Nat} {l : HS} (h : GOOD N (PRb 0 ev) l) (h5 : ev ≤ 5) : L13 ev l := fun y hy x hx => (h _ (pr0_lt ev (by omega) y hy x hx)).1
theorem GOOD.TRI {N : NF} {ev : Nat} {l : HS} (h : GOOD N (PRb 0 ev) l) (h5 : ev ≤ 5) {a b c : Nat} (ha : a < ev) (hb : b < ev) (hc : c < ev) (hab : a ≠ b) (hbc : b ≠ c) (hac : a ≠ c) : TRI l a b c := by
  have hl := h.l13 h5
  have base : ∀ x y z, x < y → y < z → z < ev → Jvm.Pilot.COutcropAgesLaw_law_r9933_a420fe.TRI l x y z := fun x y z hxy hyz hz => by
    have := h.tri hxy hyz (by omega) (pr0_lt ev (by omega) z hz y hyz)
    unfold Jvm.Pilot.COutcropAgesLaw_law_r9933_a420fe.TRI relH
    rw [if_pos hxy, if_pos hyz, if_pos (by omega)]
    exact this
  rcases Nat.lt_or_gt_of_ne hab with q1 | q1 <;> rcases Nat.lt_or_gt_of_ne hbc with q2 | q2 <;> rcases Nat.lt_or_gt_of_ne hac with q3 | q3
  · exact base a b c q1 q2 hc
  · omega
  · have t := base a c b q3 q2 hb
    exact (((t.s2 hl ha hc hb hac).s1 hl hc ha hb (Ne.symm hac) hab (Ne.symm hbc)).s2 hl hb ha hc (Ne.symm hab))
  · have t := base c a b q3 q1 hb
    exact ((t.s1 hl hc ha hb (Ne.symm hac) hab (Ne.symm hbc)).s2 hl hb ha hc (Ne.symm hab))
  · have t := base b a c q1 q3 hc
    exact t.s2 hl hb ha hc (Ne.symm hab)
  · have t := base b c a q2 q3 ha
    exact ((t.s2 hl hb hc ha hbc).s1 hl hc hb ha (Ne.symm hbc) (Ne.symm hab) (Ne.symm hac))
  · omega
  · have t := base c b a q2 q1 ha
    exact t.s1 hl hc hb ha (Ne.symm hbc) (Ne.symm hab) (Ne.symm hac)
/-- a history as a net -/
def AT (l : HS) : NF := fun a b => if a = b then 64 else 2 ^ relH l a b
theorem pow_bit {k c : Nat} : (2 ^ k).testBit c = true ↔ k = c := by rw [Nat.testBit_two_pow]; simp
theorem AT_nz {ev : Nat} {l : HS} : NZ ev (AT l) := fun a b _ _ => by
  unfold AT
  split
  · decide
  · exact Nat.ne_of_gt (Nat.two_pow_pos _)
theorem AT_lt {ev : Nat} {l : HS} (h : L13 ev l) {a b : Nat} (ha : a < ev) (hb : b < ev) : AT l a b < 8192 := by
  unfold AT
  split
  · decide
  · exact Nat.pow_lt_pow_right (n := 13) (by decide) (h.rel ha hb)
theorem AT_pc {N : NF} {ev : Nat} {l : HS} (h : GOOD N (PRb 0 ev) l) (h5 : ev ≤ 5) : PC ev (AT l) := fun a b c ha hb hc => by
  have hl := h.l13 h5
  by_cases e1 : a = b
  · subst e1
    have : AT l a a = 64 := by unfold AT; rw [if_pos rfl]
    rw [this, one_cmps (AT_lt hl ha hc)]
    exact Sub.rf
  by_cases e2 : b = c
  · subst e2
    have : AT l b b = 64 := by unfold AT; rw [if_pos rfl]
    rw [this, cmps_one (AT_lt hl ha hb)]
    exact Sub.rf
  intro x hx
  rw [cmps_bit]
  by_cases e3 : a = c
  · subst e3
    unfold AT at hx ⊢
    rw [if_pos rfl, bit64] at hx
    subst hx
    rw [if_neg e1, if_neg e2]
    refine ⟨relH l a b, hl.rel ha hb, relH l b a, hl.rel hb ha, two_bit, two_bit, ?_⟩
    rw [relH_sw hl ha hb e1]
    exact tt_self _ (hl.rel ha hb)
  · unfold AT at hx ⊢
    rw [if_neg e3, pow_bit] at hx
    subst hx
    rw [if_neg e1, if_neg e2]
    exact ⟨relH l a b, hl.rel ha hb, relH l b c, hl.rel hb hc, two_bit, two_bit, h.TRI h5 ha hb hc e1 e2 e3⟩
theorem AT_le {N : NF} {ev : Nat} {l : HS} (h : GOOD N (PRb 0 ev) l) (h5 : ev ≤ 5) (hs : SYM ev N) : LE ev (AT l) N := fun a b ha hb c hc => by
  have hl := h.l13 h5
  unfold AT at hc
  by_cases e : a = b
  · subst e
    rw [if_pos rfl] at hc
    rw [hs.2 a ha]
    exact hc
  · rw [if_neg e, pow_bit] at hc
    subst hc
    rcases Nat.lt_or_gt_of_ne e with q | q
    · unfold relH
      rw [if_pos q]
      exact (h.in q (by omega) (pr0_lt ev (by omega) b hb a q)).1
    · have g := h.in q (by omega) (pr0_lt ev (by omega) a ha b q)
      unfold relH
      rw [if_neg (by omega), (hs.1 b a hb ha).1, trn_bit]
      refine ⟨by omega, ?_⟩
      rw [show 12 - (12 - l (PRb b a)) = l (PRb b a) by omega]
      exact g.1
theorem GOOD.of {N N1 : NF} {ev : Nat} {l : HS} (h : GOOD N (PRb 0 ev) l) (h5 : ev ≤ 5) (hle : LE ev (AT l) N1) : GOOD N1 (PRb 0 ev) l := fun q hq => by
  have p10 := PRb0_le ev (by omega)
  have g := h q hq
  refine ⟨g.1, ?_⟩
  obtain ⟨t1, t2, t3⟩ := lohi_t q (by omega)
  have g2 := g.2
  unfold agP agX at g2 ⊢
  rw [Bool.and_eq_true] at g2 ⊢
  refine ⟨?_, g2.2⟩
  have hhi : hiT q < ev := by
    rcases Nat.lt_or_ge (hiT q) ev with e | e
    · exact e
    · exfalso
      have : ∀ ev, ev < 6 → ∀ q, q < 10 → q < PRb 0 ev → hiT q < ev := by decide +kernel
      have := this ev (by omega) q (by omega) hq
      omega
  have := hle (loT q) (hiT q) (by omega) hhi (l q) (by
    unfold AT relH
    rw [if_neg (by omega), if_pos t1, t3]
    exact two_bit)
  exact this
theorem GOOD.mono {N N1 : NF} {ev : Nat} {l : HS} (h : GOOD N (PRb 0 ev) l) (h5 : ev ≤ 5) (hle : LE ev N N1) (hs : SYM ev N) : GOOD N1 (PRb 0 ev) l := h.of h5 ((AT_le h h5 hs).tr hle)
/-- what is left by nobody may go -/
theorem ext_eq {N N1 : NF} {ev : Nat} (h5 : ev ≤ 5) (hle : ∀ q r l, q < PRb 0 ev → agP N1 q r l = true → agP N q r l = true) (h : ∀ l, GOOD N (PRb 0 ev) l → GOOD N1 (PRb 0 ev) l) : ∀ {k p : Nat} {l : HS}, p + k = PRb 0 ev → GOOD N1 p l → ext N k p l = ext N1 k p l
  | 0, _, _, _, _ => rfl
  | k + 1, p, l, hp, hg => by
    have p10 := PRb0_le ev (by omega)
    simp only [ext]
    refine catF_congr (fun r _ hr => ?_)
    by_cases e1 : agP N1 p r l = true
    · rw [if_pos e1, if_pos (hle p r l (by omega) e1)]
      exact ext_eq h5 hle h (by omega) (hg.put (by omega) (by omega) e1)
    · rw [if_neg e1]
      by_cases e : agP N p r l = true
      · rw [if_pos e]
        have hgN : GOOD N p l := fun q hq => ⟨(hg q hq).1, hle q _ _ (by omega) (hg q hq).2⟩
        refine ext_nil (P := PRb 0 ev) p10 (by omega) (hgN.put (by omega) (by omega) e) (fun l1 q1 q2 => e1 ?_)
        have := (h l1 q1 p (by omega)).2
        rw [q2 p (by omega), put1_at, agP_congr (l := l) (by omega) (fun q hq => by rw [q2 q (by omega), put1_ne (by omega)])] at this
        exact this
      · rw [if_neg e]
theorem agP_mono {N N1 : NF} {ev q r : Nat} {l : HS} (h5 : ev ≤ 5) (hq : q < PRb 0 ev) (hle : LE ev N1 N) (h : agP N1 q r l = true) : agP N q r l = true := by
  have p10 := PRb0_le ev (by omega)
  obtain ⟨t1, t2, t3⟩ := lohi_t q (by omega)
  unfold agP agX at h ⊢
  rw [Bool.and_eq_true] at h ⊢
  have hhi : hiT q < ev := by
    have : ∀ ev, ev < 6 → ∀ q, q < 10 → q < PRb 0 ev → hiT q < ev := by decide +kernel
    exact this ev (by omega) q (by omega) hq
  exact ⟨hle _ _ (by omega) hhi _ h.1, h.2⟩
theorem IsCl.sols {N N1 : NF} {ev : Nat} {b : Bool} (h : IsCl ev N N1 b) (h5 : ev ≤ 5) (hs : SYM ev N) : sols ev N = sols ev N1 := by
  unfold Jvm.Pilot.COutcropAgesLaw_law_r9933_a420fe.sols
  rcases h with ⟨rfl, s1, n1, l1, p1, g1⟩ | ⟨rfl, z1, g1⟩
  · exact ext_eq h5 (fun q r l hq => agP_mono h5 hq l1) (fun l hl => hl.of h5 (g1 _ (AT_pc hl h5) (AT_le hl h5 hs))) (by omega) (fun q hq => absurd hq (by omega))
  · have hle : LE ev N1 N := fun a b ha hb c hc => by rw [z1 a b ha hb] at hc; simp at hc
    exact ext_eq h5 (fun q r l hq => agP_mono h5 hq hle) (fun l hl => absurd AT_nz (g1 _ (AT_pc hl h5) (AT_le hl h5 hs))) (by omega) (fun q hq => absurd hq (by omega))
theorem sols_good {N : NF} {ev : Nat} {l : HS} (h5 : ev ≤ 5) (h : l ∈ sols ev N) : GOOD N (PRb 0 ev) l := (ext_mem (PRb0_le ev (by omega)) (by omega) (fun q hq => absurd hq (by omega)) h).1
theorem sols_nil {N : NF} {ev : Nat} (h5 : ev ≤ 5) : (sols ev N).length = 0 ↔ ∀ l, ¬ GOOD N (PRb 0 ev) l := by
  constructor
  · intro h l hl
    have e : sols ev N = [] := List.length_eq_zero_iff.mp h
    have p10 := PRb0_le ev (by omega)
    have key : ∀ (k p : Nat) (l0 : HS), p + k = PRb 0 ev → (∀ q, q < p → l q = l0 q) → ext N k p l0 ≠ [] := by
      intro k
      induction k with
      | zero => intro p l0 _ _; simp [ext]
      | succ k ih =>
        intro p l0 hp hq he
        have hm : ∀ (m i : Nat) (f : Nat → List HS), catF f i m = [] → ∀ r, i ≤ r → r < i + m → f r = [] := by
          intro m
          induction m with
          | zero => intro i f _ r h1 h2; omega
          | succ m ihm =>
            intro i f hf r h1 h2
            simp only [catF, List.append_eq_nil_iff] at hf
            by_cases er : r = i
            · rw [er]; exact hf.1
            · exact ihm (i + 1) f hf.2 r (by omega) (by omega)
        have g := hl p (by omega)
        have := hm 13 0 _ he (l p) (by omega) (by omega)
        rw [agP_congr (l := l) (by omega) (fun q hq1 => (hq q hq1).symm), if_pos g.2] at this
        exact ih (p + 1) (put1 l0 p (l p)) (by omega) (fun q hq1 => by
          by_cases eq : q = p
          · rw [eq, put1_at]
          · rw [put1_ne eq]; exact hq q (by omega)) this
    exact key (PRb 0 ev) 0 h00 (by omega) (fun q hq => absurd hq (by omega)) e
  · intro h
    rw [List.length_eq_zero_iff]
    cases e : sols ev N with
    | nil => rfl
    | cons a t => exact absurd (sols_good h5 (by rw [e]; exact List.mem_cons_self)) (h a)
