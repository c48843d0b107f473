/-! The line: placing -/
theorem zone_lt {b e j k : Nat} (hjk : j < k) (hk : k < 5) (hb : 1 ≤ b) (hbe : b < e) : ZT b e j < ZS b e k := by
  rcases five hk with rfl | rfl | rfl | rfl | rfl <;> rcases five (Nat.lt_trans hjk hk) with rfl | rfl | rfl | rfl | rfl <;> simp only [ZS, ZT] <;> omega
theorem IV.uni {y : Nat} {B E k : Nat → Nat} {c1 c2 e1 e2 : Nat} (h : IV y B E k c1 c2) (h1 : IV y B E k e1 e2) : c1 = e1 ∧ c2 = e2 := by
  have a := (h.1 e1).mpr ((h1.1 e1).mp (Nat.le_refl _))
  have b := (h1.1 c1).mpr ((h.1 c1).mp (Nat.le_refl _))
  have c := (h.2 e2).mpr ((h1.2 e2).mp (Nat.le_refl _))
  have d := (h1.2 c2).mpr ((h.2 c2).mp (Nat.le_refl _))
  omega
def plB (b1 b2 e1 : Nat) : Nat := if b1 = e1 then b1 - 1 + (b2 - b1 + 2) / 3 else (b1 + b2) / 2
def plE (b1 b2 e1 e2 : Nat) : Nat := if b1 = e1 then b2 + 1 - (b2 - b1 + 2) / 3 else (e1 + e2) / 2
def put1 (B : Nat → Nat) (y v : Nat) : Nat → Nat := fun z => if z = y then v else B z
theorem put1_at {B : Nat → Nat} {y v : Nat} : put1 B y v y = v := if_pos rfl
theorem put1_ne {B : Nat → Nat} {y v z : Nat} (h : z ≠ y) : put1 B y v z = B z := if_neg h
theorem GP.add {g y : Nat} {B E : Nat → Nat} {β ε : Nat} (h : GP (3 * g) y B E) (hg : 1 ≤ g) (hbe : β + g ≤ ε) (lb : g ≤ β) (ub : ε + g ≤ 243) (hb : isT y B E β ∨ ∀ s, isT y B E s → s + g ≤ β ∨ β + g ≤ s) (he : isT y B E ε ∨ ∀ s, isT y B E s → s + g ≤ ε ∨ ε + g ≤ s) : GP g (y + 1) (put1 B y β) (put1 E y ε) := by
  obtain ⟨h1, h2, h3⟩ := h
  have hT : ∀ t, isT (y + 1) (put1 B y β) (put1 E y ε) t → isT y B E t ∨ t = β ∨ t = ε := by
    rintro t ⟨z, hz, ht⟩
    by_cases e : z = y
    · subst e
      rw [put1_at, put1_at] at ht
      exact Or.inr ht
    · rw [put1_ne e, put1_ne e] at ht
      exact Or.inl ⟨z, by omega, ht⟩
  have hbT : ∀ s, isT y B E s → (s < β → s + g ≤ β) ∧ (β < s → β + g ≤ s) := fun s hs => by
    rcases hb with hb | hb
    · exact ⟨fun q => by have := h2 _ _ hs hb q; omega, fun q => by have := h2 _ _ hb hs q; omega⟩
    · have := hb s hs
      omega
  have heT : ∀ s, isT y B E s → (s < ε → s + g ≤ ε) ∧ (ε < s → ε + g ≤ s) := fun s hs => by
    rcases he with he | he
    · exact ⟨fun q => by have := h2 _ _ hs he q; omega, fun q => by have := h2 _ _ he hs q; omega⟩
    · have := he s hs
      omega
  refine ⟨fun t ht => ?_, fun s t hs ht hst => ?_, fun z hz => ?_⟩
  · rcases hT t ht with q | q | q
    · have := h1 t q; omega
    · omega
    · omega
  · rcases hT s hs with q | q | q <;> rcases hT t ht with p | p | p
    · have := h2 s t q p hst; omega
    · subst p; exact (hbT s q).1 hst
    · subst p; exact (heT s q).1 hst
    · subst q; exact (hbT t p).2 hst
    · omega
    · omega
    · subst q; exact (heT t p).2 hst
    · omega
    · omega
  · by_cases e : z = y
    · subst e
      rw [put1_at, put1_at]
      omega
    · rw [put1_ne e, put1_ne e]
      exact h3 z (by omega)
theorem mid_ok {g y : Nat} {B E k : Nat → Nat} {c1 c2 : Nat} (hG : GP (3 * g) y B E) (hg : 1 ≤ g) (hg3 : 3 * g ≤ 243) (h : IV y B E k c1 c2) (hk : ∀ z, z < y → k z < 5) (hc : c1 ≤ c2) : (isT y B E ((c1 + c2) / 2) ∧ c1 = c2 ∧ isT y B E c1) ∨ (c1 - 1 + g ≤ (c1 + c2) / 2 ∧ (c1 + c2) / 2 + g ≤ c2 + 1 ∧ 1 ≤ c1 ∧ c2 ≤ 242 ∧ c1 + 3 * g ≤ c2 + 2 ∧ ∀ s, isT y B E s → s < c1 ∨ c2 < s) := by
  rcases h.gap hG (by omega) hk hc with ⟨q1, q2⟩ | ⟨q1, q2, q3, q4, q5⟩
  · subst q1
    refine Or.inl ⟨?_, rfl, q2⟩
    rw [show (c1 + c1) / 2 = c1 by omega]
    exact q2
  · have key : c1 + 3 * g ≤ c2 + 2 := by
      rcases q1 with q1 | q1 <;> rcases q2 with q2 | q2
      · omega
      · have := hG.1 _ q2; omega
      · have := hG.1 _ q1; omega
      · have := hG.2.1 _ _ q1 q2 (by omega); omega
    exact Or.inr ⟨by omega, by omega, q3, q4, key, q5⟩
theorem place_ok {g y : Nat} {B E l : Nat → Nat} {b1 b2 e1 e2 : Nat} (hG : GP (3 * g) y B E) (hg : 1 ≤ g) (hg3 : 3 * g ≤ 243) (hl : ∀ z, z < y → l z < 13) (hb : IV y B E (fun z => zb (l z)) b1 b2) (he : IV y B E (fun z => ze (l z)) e1 e2) (hbb : b1 ≤ b2) (hee : e1 ≤ e2) : GP g (y + 1) (put1 B y (plB b1 b2 e1)) (put1 E y (plE b1 b2 e1 e2)) ∧ ∀ z, z < y → RLT (B z) (E z) (plB b1 b2 e1) (plE b1 b2 e1 e2) (l z) := by
  have kb : ∀ z, z < y → zb (l z) < 5 := fun z hz => zb_5 _ (hl z hz)
  have ke : ∀ z, z < y → ze (l z) < 5 := fun z hz => ze_5 _ (hl z hz)
  have lB := (hb.1 b1).mp (Nat.le_refl _)
  have uB := (hb.2 b2).mp (Nat.le_refl _)
  have lE := (he.1 e1).mp (Nat.le_refl _)
  have uE := (he.2 e2).mp (Nat.le_refl _)
  have rl : ∀ β ε, b1 ≤ β → β ≤ b2 → e1 ≤ ε → ε ≤ e2 → ∀ z, z < y → RLT (B z) (E z) β ε (l z) := fun β ε q1 q2 q3 q4 z hz =>
    ⟨⟨((hb.1 β).mp q1).2 z hz, ((hb.2 β).mp q2).2 z hz⟩, ((he.1 ε).mp q3).2 z hz, ((he.2 ε).mp q4).2 z hz⟩
  by_cases hall : ∀ z, z < y → zb (l z) = ze (l z)
  · have hu := hb.uni (he.congr hall)
    obtain ⟨u1, u2⟩ := hu
    subst u1
    subst u2
    unfold plB plE
    rw [if_pos rfl, if_pos rfl]
    rcases mid_ok hG hg hg3 hb kb hbb with ⟨q1, q2, z, hz, q3⟩ | ⟨q1, q2, q3, q4, q5, q6⟩
    · exfalso
      have a1 := lB.2 z hz
      have a2 := uB.2 z hz
      have a3 := hG.2.2 z hz
      have a4 := hG.1 _ ⟨z, hz, Or.inl rfl⟩
      have h0 := hall z hz
      rcases zbe (l z) (hl z hz) with h1 | ⟨_, h1 | h1 | h1⟩
      · omega
      · simp only [h1, ZS, ZT] at a1 a2
        omega
      · simp only [h1, ZS, ZT] at a1 a2
        omega
      · simp only [h1, ZS, ZT] at a1 a2
        omega
    · refine ⟨hG.add hg (by omega) (by omega) (by omega) (Or.inr fun s hs => ?_) (Or.inr fun s hs => ?_), rl _ _ (by omega) (by omega) (by omega) (by omega)⟩
      · have := q6 s hs; omega
      · have := q6 s hs; omega
  · have ⟨z, hz, hne⟩ : ∃ z, z < y ∧ zb (l z) < ze (l z) := by
      rcases Classical.em (∃ z, z < y ∧ zb (l z) < ze (l z)) with h | h
      · exact h
      · exact absurd (fun z hz => by
          rcases zbe (l z) (hl z hz) with h1 | h1
          · exact absurd ⟨z, hz, h1⟩ h
          · exact h1.1) hall
    have hlt : b2 < e1 := by
      have a1 := uB.2 z hz
      have a2 := lE.2 z hz
      have a4 := hG.1 _ ⟨z, hz, Or.inl rfl⟩
      have := zone_lt (b := B z) (e := E z) hne (ke z hz) (by omega) (hG.2.2 z hz)
      simp only at a1 a2
      omega
    have hne1 : b1 ≠ e1 := by omega
    unfold plB plE
    rw [if_neg hne1, if_neg hne1]
    refine ⟨?_, rl _ _ (by omega) (by omega) (by omega) (by omega)⟩
    have mb := mid_ok hG hg hg3 hb kb hbb
    have me := mid_ok hG hg hg3 he ke hee
    have tb : isT y B E ((b1 + b2) / 2) ∨ ∀ s, isT y B E s → s + g ≤ (b1 + b2) / 2 ∨ (b1 + b2) / 2 + g ≤ s := by
      rcases mb with q | q
      · exact Or.inl q.1
      · exact Or.inr (fun s hs => by have := q.2.2.2.2.2 s hs; omega)
    have te : isT y B E ((e1 + e2) / 2) ∨ ∀ s, isT y B E s → s + g ≤ (e1 + e2) / 2 ∨ (e1 + e2) / 2 + g ≤ s := by
      rcases me with q | q
      · exact Or.inl q.1
      · exact Or.inr (fun s hs => by have := q.2.2.2.2.2 s hs; omega)
    refine hG.add hg ?_ ?_ ?_ tb te
    · rcases mb with ⟨p1, p2, p3⟩ | p
      · rcases me with ⟨q1, q2, q3⟩ | q
        · have := hG.2.1 _ _ p1 q1 (by omega); omega
        · have := q.2.2.2.2.2 _ p1; omega
      · rcases me with ⟨q1, q2, q3⟩ | q
        · have := p.2.2.2.2.2 _ q1; omega
        · omega
    · rcases mb with ⟨p1, p2, p3⟩ | p
      · have := hG.1 _ p1; omega
      · omega
    · rcases me with ⟨p1, p2, p3⟩ | p
      · have := hG.1 _ p1; omega
      · omega
/-! the line m -/
def frL (m : Nat) (I I1 : SI) : Prop := ∀ t k, ¬ (8 ≤ t ∧ t ≤ 15 ∧ (k = m ∨ (t = 10 ∧ k / 5 = m))) → I1 t k = I t k
theorem frL.rf {m : Nat} {I : SI} : frL m I I := fun _ _ _ => rfl
theorem frL.tr {m : Nat} {I I1 I2 : SI} (h : frL m I I1) (h1 : frL m I1 I2) : frL m I I2 := fun t k hk => (h1 t k hk).trans (h t k hk)
theorem frL.u {m t j : Nat} {I I1 : SI} {x : Int32} (h : frL m I I1) (h1 : 8 ≤ t) (h2 : t ≤ 15) : frL m I (uI I1 t m j x) := fun a k hk => by
  rw [uI_ne (fun q => hk (by cases q; exact ⟨h1, h2, Or.inl rfl⟩))]
  exact h a k hk
/-- where the first y events begin and end -/
def LB (I : SI) (m y : Nat) (B E : Nat → Nat) : Prop := ∀ z, z < y → I 11 m z = nI (B z) ∧ I 12 m z = nI (E z) ∧ 1 ≤ B z ∧ B z ≤ 243 ∧ 1 ≤ E z ∧ E z ≤ 243
set_option maxRecDepth 10000 in
theorem c_zoneStart (I : SI) (J : SJ) (m y x k : Nat) (B E : Nat → Nat) (h : LB I m y B E) (hx : x < y) (hy : y ≤ 5) (hk : k < 5) (d : Nat) : Tri d YX3_zoneStart 117 [vr 8 m, vi (nI x), vi (nI k)] (S0 I J) (fun r σ => σ = S0 I J ∧ r = some (vi (nI (ZS (B x) (E x) k)))) := by
  refine Tri.of (M := MX3_zoneStart) k_X3_zoneStart ⟨Nat.le_refl _, Nat.le_refl _⟩ (Nat.le_of_ble_eq_true rfl) ?_
  obtain ⟨h1, h2, h3⟩ := h x hx
  have ec : (nI x).toNatClampNeg = x := nI_clamp (by omega)
  have vin : vp_in (nI x) 5 := vp_in_nI (by omega) (by decide)
  have kk : ∀ {a b : Nat}, a < 5 → b < 5 → nI a = nI b → a = b := fun ha hb e => (nI_eq (by omega) (by omega)).mp e
  refine Sat.of k_X3_zoneStart [] 60 ?_
  refine ⟨⟨fun c => ⟨rfl, trivial, rfl, ?_⟩, fun c => ⟨vin, rfl, trivial, rfl, ?_⟩, fun c => ⟨vin, rfl, trivial, rfl, ?_⟩, fun c => ⟨vin, rfl, trivial, rfl, ?_⟩, trivial⟩, fun c0 c1 c2 c3 => ⟨vin, rfl, trivial, rfl, ?_⟩⟩
  · have e := kk hk (by decide) c
    subst e
    rfl
  · have e := kk hk (by decide) c
    subst e
    show some (vi (I 11 m (nI x).toNatClampNeg)) = _
    rw [ec, h1]
    rfl
  · have e := kk hk (by decide) c
    subst e
    show some (vi (I 11 m (nI x).toNatClampNeg + 1)) = _
    rw [ec, h1, nI_1]
    rfl
  · have e := kk hk (by decide) c
    subst e
    show some (vi (I 12 m (nI x).toNatClampNeg)) = _
    rw [ec, h2]
    rfl
  · have n : k ≠ 0 ∧ k ≠ 1 ∧ k ≠ 2 ∧ k ≠ 3 := ⟨fun e => c0 (by rw [e]), fun e => c1 (by rw [e]), fun e => c2 (by rw [e]), fun e => c3 (by rw [e])⟩
    have e : k = 4 := by omega
    subst e
    show some (vi (I 12 m (nI x).toNatClampNeg + 1)) = _
    rw [ec, h2, nI_1]
    rfl
set_option maxRecDepth 10000 in
theorem c_zoneEnd (I : SI) (J : SJ) (m y x k : Nat) (B E : Nat → Nat) (h : LB I m y B E) (hx : x < y) (hy : y ≤ 5) (hk : k < 5) (d : Nat) : Tri d YX3_zoneEnd 117 [vr 8 m, vi (nI x), vi (nI k)] (S0 I J) (fun r σ => σ = S0 I J ∧ r = some (vi (nI (ZT (B x) (E x) k)))) := by
  refine Tri.of (M := MX3_zoneEnd) k_X3_zoneEnd ⟨Nat.le_refl _, Nat.le_refl _⟩ (Nat.le_of_ble_eq_true rfl) ?_
  obtain ⟨h1, h2, h3, h4, h5, h6⟩ := h x hx
  have ec : (nI x).toNatClampNeg = x := nI_clamp (by omega)
  have vin : vp_in (nI x) 5 := vp_in_nI (by omega) (by decide)
  have kk : ∀ {a b : Nat}, a < 5 → b < 5 → nI a = nI b → a = b := fun ha hb e => (nI_eq (by omega) (by omega)).mp e
  refine Sat.of k_X3_zoneEnd [] 60 ?_
  refine ⟨⟨fun c => ⟨vin, rfl, trivial, rfl, ?_⟩, fun c => ⟨vin, rfl, trivial, rfl, ?_⟩, fun c => ⟨vin, rfl, trivial, rfl, ?_⟩, fun c => ⟨vin, rfl, trivial, rfl, ?_⟩, trivial⟩, fun c0 c1 c2 c3 => ⟨rfl, trivial, rfl, ?_⟩⟩
  · have e := kk hk (by decide) c
    subst e
    show some (vi (I 11 m (nI x).toNatClampNeg - 1)) = _
    rw [ec, h1, show (1 : Int32) = nI 1 from rfl, pk_sub h3]
    rfl
  · have e := kk hk (by decide) c
    subst e
    show some (vi (I 11 m (nI x).toNatClampNeg)) = _
    rw [ec, h1]
    rfl
  · have e := kk hk (by decide) c
    subst e
    show some (vi (I 12 m (nI x).toNatClampNeg - 1)) = _
    rw [ec, h2, show (1 : Int32) = nI 1 from rfl, pk_sub h5]
    rfl
  · have e := kk hk (by decide) c
    subst e
    show some (vi (I 12 m (nI x).toNatClampNeg)) = _
    rw [ec, h2]
    rfl
  · have n : k ≠ 0 ∧ k ≠ 1 ∧ k ≠ 2 ∧ k ≠ 3 := ⟨fun e => c0 (by rw [e]), fun e => c1 (by rw [e]), fun e => c2 (by rw [e]), fun e => c3 (by rw [e])⟩
    have e : k = 4 := by omega
    subst e
    rfl
set_option maxRecDepth 10000 in
theorem c_place (I : SI) (J : SJ) (m y b1 b2 e1 e2 : Nat) (hy : y < 5) (h1 : 1 ≤ b1) (h2 : b1 ≤ b2) (h3 : b2 ≤ 242) (h4 : 1 ≤ e1) (h5 : e1 ≤ e2) (h6 : e2 ≤ 242) (d : Nat) : Tri d YX3_place 117 [vr 8 m, vi (nI y), vi (nI b1), vi (nI b2), vi (nI e1), vi (nI e2)] (S0 I J) (fun r σ => r = none ∧ σ = S0 (uI (uI I 11 m y (nI (plB b1 b2 e1))) 12 m y (nI (plE b1 b2 e1 e2))) J) := by
  refine Tri.of (M := MX3_place) k_X3_place ⟨Nat.le_refl _, Nat.le_refl _⟩ (Nat.le_of_ble_eq_true rfl) ?_
  have ec : (nI y).toNatClampNeg = y := nI_clamp (by omega)
  have vin : vp_in (nI y) 5 := vp_in_nI (by omega) (by decide)
  refine Sat.of k_X3_place [] 60 ?_
  refine ⟨fun c => ⟨by decide, vin, by decide, vin, rfl, rfl, rfl, ?_⟩, fun c => ⟨by decide, vin, vin, rfl, rfl, rfl, ?_⟩⟩
  · have hne : b1 ≠ e1 := fun e => c (by rw [e])
    show (uI (uI I 11 m (nI y).toNatClampNeg ((nI b1 + nI b2) / 2)) 12 m (nI y).toNatClampNeg ((nI e1 + nI e2) / 2), J, 117, aT) = _
    unfold plB plE
    rw [if_neg hne, if_neg hne, ec, nI_add, nI_add, show (2 : Int32) = nI 2 from rfl, pk_div (by omega) (by decide) (by decide), pk_div (by omega) (by decide) (by decide)]
  · have c : nI b1 = nI e1 := c
    have e : b1 = e1 := (nI_eq (by omega) (by omega)).mp c
    show (uI (uI I 11 m (nI y).toNatClampNeg (nI b1 - 1 + (nI b2 - nI b1 + 2) / 3)) 12 m (nI y).toNatClampNeg (nI b2 + 1 - (nI b2 - nI b1 + 2) / 3), J, 117, aT) = _
    unfold plB plE
    rw [if_pos e, if_pos e, ec, pk_sub h2, show (2 : Int32) = nI 2 from rfl, show (3 : Int32) = nI 3 from rfl, show (1 : Int32) = nI 1 from rfl, nI_add, pk_div (by omega) (by decide) (by decide), pk_sub h1, nI_add, nI_add, pk_sub (by omega)]
