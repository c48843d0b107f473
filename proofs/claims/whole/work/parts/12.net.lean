/-! Net: reading, putting, telling -/
/-- every relation of a is one of b -/
def Sub (a b : Nat) : Prop := ∀ c, a.testBit c = true → b.testBit c = true
theorem Sub.rf {a : Nat} : Sub a a := fun _ h => h
theorem Sub.tr {a b c : Nat} (h : Sub a b) (h1 : Sub b c) : Sub a c := fun x hx => h1 x (h x hx)
theorem Sub.antisymm {a b : Nat} (h : Sub a b) (h1 : Sub b a) : a = b := Nat.eq_of_testBit_eq fun c => by
  rw [Bool.eq_iff_iff]; exact ⟨h c, h1 c⟩
theorem Sub.and_l {a b : Nat} : Sub (a &&& b) a := fun c h => by
  rw [Nat.testBit_and, Bool.and_eq_true] at h; exact h.1
theorem Sub.and_r {a b : Nat} : Sub (a &&& b) b := fun c h => by
  rw [Nat.testBit_and, Bool.and_eq_true] at h; exact h.2
theorem Sub.and {a b c : Nat} (h : Sub a b) (h1 : Sub a c) : Sub a (b &&& c) := fun x hx => by
  rw [Nat.testBit_and, Bool.and_eq_true]; exact ⟨h x hx, h1 x hx⟩
theorem Sub.zero {a : Nat} (h : Sub a 0) : a = 0 := Nat.eq_of_testBit_eq fun c => by
  rw [Nat.zero_testBit]
  cases hc : a.testBit c with
  | false => rfl
  | true => have := h c hc; simp at this
theorem bit13 {a c : Nat} (ha : a < 8192) (h : a.testBit c = true) : c < 13 := by
  rcases Nat.lt_or_ge c 13 with h1 | h1
  · exact h1
  · rw [Nat.testBit_lt_two_pow (Nat.lt_of_lt_of_le (show a < 2 ^ 13 from ha) (Nat.pow_le_pow_right (by decide) h1))] at h
    cases h
theorem bit_all {c : Nat} (h : c < 13) : (8191 : Nat).testBit c = true := by
  rw [show (8191 : Nat) = 2 ^ 13 - 1 from rfl, Nat.testBit_two_pow_sub_one]
  simp [h]
theorem Sub.all {a : Nat} (h : a < 8192) : Sub a 8191 := fun c hc => bit_all (bit13 h hc)
theorem and_lt13 {a b : Nat} (h : a < 8192) : a &&& b < 8192 := Nat.lt_of_le_of_lt Nat.and_le_left h
theorem nz_bit {a : Nat} (ha : a < 8192) (h : a ≠ 0) : ∃ c, c < 13 ∧ a.testBit c = true := by
  rcases Classical.em (∃ c, a.testBit c = true) with ⟨c, hc⟩ | hn
  · exact ⟨c, bit13 ha hc, hc⟩
  · exact absurd (Sub.zero (fun c hc => absurd ⟨c, hc⟩ hn)) h
theorem trn_bit {a c : Nat} : (trn a).testBit c = true ↔ c < 13 ∧ a.testBit (12 - c) = true := by
  unfold trn
  rw [rowF_bit]
  have hT : ∀ s, T2 13 s = 2 ^ (12 - s) := fun s => by simp [T2]
  constructor
  · rintro ⟨s, h1, h2, h3⟩
    rw [hT, Nat.testBit_two_pow] at h3
    have h3 : 12 - s = c := by simpa using h3
    exact ⟨by omega, by rw [← h3, show 12 - (12 - s) = s by omega]; exact h2⟩
  · rintro ⟨h1, h2⟩
    refine ⟨12 - c, by omega, h2, ?_⟩
    rw [hT, Nat.testBit_two_pow]
    simp
    omega
theorem trn_lt {a : Nat} : trn a < 8192 := rowF_lt
theorem trn_trn {a : Nat} (h : a < 8192) : trn (trn a) = a := Nat.eq_of_testBit_eq fun c => by
  rw [Bool.eq_iff_iff, trn_bit, trn_bit]
  constructor
  · rintro ⟨h1, h2, h3⟩
    rw [show 12 - (12 - c) = c by omega] at h3
    exact h3
  · intro h1
    have := bit13 h h1
    exact ⟨this, by omega, by rw [show 12 - (12 - c) = c by omega]; exact h1⟩
theorem trn_and {a b : Nat} : trn (a &&& b) = trn a &&& trn b := Nat.eq_of_testBit_eq fun c => by
  rw [Bool.eq_iff_iff, Nat.testBit_and, Bool.and_eq_true, trn_bit, trn_bit, trn_bit, Nat.testBit_and, Bool.and_eq_true]
  constructor
  · rintro ⟨h1, h2, h3⟩; exact ⟨⟨h1, h2⟩, h1, h3⟩
  · rintro ⟨⟨h1, h2⟩, _, h3⟩; exact ⟨h1, h2, h3⟩
theorem trn_0 : trn 0 = 0 := by decide +kernel
theorem trn_64 : trn 64 = 64 := by decide +kernel
theorem trn_all : trn 8191 = 8191 := by decide +kernel
theorem trn_eq0 {a : Nat} (h : a < 8192) : trn a = 0 ↔ a = 0 := by
  constructor
  · intro h1
    rw [← trn_trn h, h1, trn_0]
  · intro h1
    rw [h1, trn_0]
def ZERO (ev : Nat) (N : Nat → Nat → Nat) : Prop := ∃ x y, x < ev ∧ y < ev ∧ N x y = 0
/-- the net n has ev events and the sets N -/
def NT (I : SI) (n ev : Nat) (N : Nat → Nat → Nat) (bar : Bool) : Prop := I 16 n 2 = nI ev ∧ I 16 n 3 = bi bar ∧ 2 ≤ ev ∧ ev ≤ 5 ∧ ∀ x y, x < ev → y < ev → I 17 n (5 * x + y) = nI (N x y) ∧ N x y < 8192
def frN (n : Nat) (I I1 : SI) : Prop := ∀ t k, ¬ ((t = 16 ∨ t = 17) ∧ k = n) → I1 t k = I t k
theorem frN.rf {n : Nat} {I : SI} : frN n I I := fun _ _ _ => rfl
theorem frN.tr {n : Nat} {I I1 I2 : SI} (h : frN n I I1) (h1 : frN n I1 I2) : frN n I I2 := fun t k hk => (h1 t k hk).trans (h t k hk)
theorem frN.u {n t j : Nat} {I I1 : SI} {x : Int32} (h : frN n I I1) (ht : t = 16 ∨ t = 17) : frN n I (uI I1 t n j x) := fun a k hk => by
  rw [uI_ne (fun q => hk (by cases q; exact ⟨ht, rfl⟩))]
  exact h a k hk
theorem ALG.fr {n : Nat} {I I1 : SI} (h : ALG I) (hf : frN n I I1) : ALG I1 := by
  unfold ALG at h ⊢
  rw [hf 1 0 (by omega), hf 2 0 (by omega)]
  exact h
theorem NT.congr {I : SI} {n ev : Nat} {N N1 : Nat → Nat → Nat} {bar : Bool} (h : NT I n ev N bar) (e : ∀ x y, x < ev → y < ev → N1 x y = N x y) : NT I n ev N1 bar := by
  obtain ⟨h1, h2, h3, h4, h5⟩ := h
  exact ⟨h1, h2, h3, h4, fun x y hx hy => by rw [e x y hx hy]; exact h5 x y hx hy⟩
theorem ix5 (x y : Nat) : nI x * 5 + nI y = nI (5 * x + y) := by
  rw [show (5 : Int32) = nI 5 from rfl, pk_mul, nI_add, Nat.mul_comm]
theorem ix5_inj {x y a b : Nat} (hy : y < 5) (hb : b < 5) (h : 5 * x + y = 5 * a + b) : x = a ∧ y = b := by omega
set_option maxRecDepth 10000 in
theorem c_at (I : SI) (J : SJ) (n ev x y : Nat) (N : Nat → Nat → Nat) (bar : Bool) (h : NT I n ev N bar) (hx : x < ev) (hy : y < ev) (d : Nat) : Tri d YX4_at 117 [vr 16 n, vi (nI x), vi (nI y)] (S0 I J) (fun r σ => σ = S0 I J ∧ r = some (vi (nI (N x y)))) := by
  refine Tri.of (M := MX4_at) k_X4_at ⟨Nat.le_refl _, Nat.le_refl _⟩ (Nat.le_of_ble_eq_true rfl) ?_
  obtain ⟨h1, h2, h3, h4, h5⟩ := h
  refine Sat.of k_X4_at [] 60 ?_
  refine ⟨?_, rfl, trivial, rfl, ?_⟩
  · show vp_in (nI x * 5 + nI y) 25
    rw [ix5]
    exact vp_in_nI (by omega) (by omega)
  · show some (vi (I 17 n (nI x * 5 + nI y).toNatClampNeg)) = _
    rw [ix5, nI_clamp (by omega), (h5 x y hx hy).1]
/-- v of x to y, and turned round -/
def putN (N : Nat → Nat → Nat) (x y v : Nat) : Nat → Nat → Nat := fun a b => if a = y ∧ b = x then trn v else if a = x ∧ b = y then v else N a b
theorem putN_lt {N : Nat → Nat → Nat} {x y v a b : Nat} (hv : v < 8192) (h : N a b < 8192) : putN N x y v a b < 8192 := by
  unfold putN
  split
  · exact trn_lt
  · split
    · exact hv
    · exact h
theorem NT.put {I : SI} {n ev x y v : Nat} {N : Nat → Nat → Nat} {bar : Bool} (h : NT I n ev N bar) (hx : x < ev) (hy : y < ev) (hv : v < 8192) : NT (uI (uI I 17 n (5 * x + y) (nI v)) 17 n (5 * y + x) (nI (trn v))) n ev (putN N x y v) bar := by
  obtain ⟨h1, h2, h3, h4, h5⟩ := h
  refine ⟨by simp [uI_t, h1], by simp [uI_t, h2], h3, h4, fun a b ha hb => ⟨?_, putN_lt hv (h5 a b ha hb).2⟩⟩
  unfold putN
  by_cases e1 : a = y ∧ b = x
  · obtain ⟨rfl, rfl⟩ := e1
    rw [uI_at, if_pos ⟨rfl, rfl⟩]
  · rw [if_neg e1, uI_j (fun q => e1 (ix5_inj (by omega) (by omega) q))]
    by_cases e2 : a = x ∧ b = y
    · obtain ⟨rfl, rfl⟩ := e2
      rw [uI_at, if_pos ⟨rfl, rfl⟩]
    · rw [if_neg e2, uI_j (fun q => e2 (ix5_inj (by omega) (by omega) q))]
      exact (h5 a b ha hb).1
theorem NT.bar {I : SI} {n ev : Nat} {N : Nat → Nat → Nat} {bar b1 : Bool} (h : NT I n ev N bar) : NT (uI I 16 n 3 (bi b1)) n ev N b1 := by
  obtain ⟨h1, h2, h3, h4, h5⟩ := h
  exact ⟨by rw [uI_j (by decide)]; exact h1, uI_at, h3, h4, fun a b ha hb => by rw [uI_t (by decide)]; exact h5 a b ha hb⟩
set_option maxRecDepth 10000 in
theorem c_put (I : SI) (J : SJ) (n ev x y v : Nat) (N : Nat → Nat → Nat) (bar : Bool) (hA : ALG I) (h : NT I n ev N bar) (hx : x < ev) (hy : y < ev) (hv : v < 8192) (d : Nat) (hd : 0 < d) : Tri d YX4_put 117 [vr 16 n, vi (nI x), vi (nI y), vi (nI v)] (S0 I J) (fun r σ => r = none ∧ ∃ I1, σ = S0 I1 J ∧ NT I1 n ev (putN N x y v) (bar || decide (v = 0)) ∧ frN n I I1) := by
  refine Tri.of (M := MX4_put) k_X4_put ⟨Nat.le_refl _, Nat.le_refl _⟩ (Nat.le_of_ble_eq_true rfl) ?_
  have h3 := h.2.2.1
  have h4 := h.2.2.2.1
  refine Sat.of k_X4_put [] 60 ?_
  have hA1 : ALG (uI I 17 n (5 * x + y) (nI v)) := hA.fr (frN.rf.u (Or.inr rfl))
  have e0 : (nI x * 5 + nI y).toNatClampNeg = 5 * x + y := by rw [ix5, nI_clamp (by omega)]
  have e1 : (nI y * 5 + nI x).toNatClampNeg = 5 * y + x := by rw [ix5, nI_clamp (by omega)]
  refine ⟨?_, 0, 117, hd, Nat.le_refl _, (c_turn (uI I 17 n (5 * x + y) (nI v)) J v hA1 hv 0).to rfl ?_ ?_⟩
  · show vp_in (nI x * 5 + nI y) 25
    rw [ix5]
    exact vp_in_nI (by omega) (by omega)
  · show (uI I 17 n (nI x * 5 + nI y).toNatClampNeg (nI v), J, 117, aT) = _
    rw [e0]
  · rintro r σ ⟨rfl, rfl⟩
    have hN := h.put hx hy hv
    have hfr : frN n I (uI (uI I 17 n (5 * x + y) (nI v)) 17 n (5 * y + x) (nI (trn v))) := (frN.rf.u (Or.inr rfl)).u (Or.inr rfl)
    refine ⟨?_, fun c => ⟨rfl, rfl, rfl, uI (uI I 17 n (5 * x + y) (nI v)) 17 n (5 * y + x) (nI (trn v)), ?_, ?_, hfr⟩, fun c => ⟨Or.inr rfl, rfl, rfl, rfl, uI (uI (uI I 17 n (5 * x + y) (nI v)) 17 n (5 * y + x) (nI (trn v))) 16 n 3 1, ?_, ?_, hfr.u (Or.inl rfl)⟩⟩
    · show vp_in (nI y * 5 + nI x) 25
      rw [ix5]
      exact vp_in_nI (by omega) (by omega)
    · show (uI (uI I 17 n (5 * x + y) (nI v)) 17 n (nI y * 5 + nI x).toNatClampNeg (nI (trn v)), J, 117, aT) = _
      rw [e1]
    · have c : ¬ nI v = nI 0 := c
      have hv0 : v ≠ 0 := fun e => c (by rw [e])
      rw [decide_eq_false hv0, Bool.or_false]
      exact hN
    · show (uI (uI (uI I 17 n (5 * x + y) (nI v)) 17 n (nI y * 5 + nI x).toNatClampNeg (nI (trn v))) 16 n 3 1, J, 117, aT) = _
      rw [e1]
    · have c : nI v = nI 0 := c
      have hv0 : v = 0 := (nI_eq (by omega) (by omega)).mp c
      rw [decide_eq_true hv0, Bool.or_true]
      exact hN.bar (b1 := true)
set_option maxRecDepth 10000 in
theorem c_hold (I : SI) (J : SJ) (n ev x y v : Nat) (N : Nat → Nat → Nat) (bar : Bool) (hA : ALG I) (h : NT I n ev N bar) (hx : x < ev) (hy : y < ev) (d : Nat) (hd : 1 < d) : Tri d YX4_hold 117 [vr 16 n, vi (nI x), vi (nI v), vi (nI y)] (S0 I J) (fun r σ => r = none ∧ ∃ I1, σ = S0 I1 J ∧ NT I1 n ev (putN N x y (N x y &&& v)) (bar || decide (N x y &&& v = 0)) ∧ frN n I I1) := by
  refine Tri.of (M := MX4_hold) k_X4_hold ⟨Nat.le_refl _, Nat.le_refl _⟩ (Nat.le_of_ble_eq_true rfl) ?_
  refine Sat.of k_X4_hold [] 60 ?_
  refine ⟨0, 117, by omega, Nat.le_refl _, (c_at I J n ev x y N bar h hx hy 0).mono ?_⟩
  rintro r σ ⟨rfl, rfl⟩
  refine ⟨1, 117, hd, Nat.le_refl _, (c_put I J n ev x y (N x y &&& v) N bar hA h hx hy (and_lt13 (h.2.2.2.2 x y hx hy).2) 1 (by omega)).to ?_ rfl ?_⟩
  · show [vr 16 n, vi (nI x), vi (nI y), vi (nI (N x y) &&& nI v)] = _
    rw [nx_an]
  · rintro r σ ⟨rfl, I1, rfl, q1, q2⟩
    exact ⟨rfl, rfl, rfl, I1, rfl, q1, q2⟩
set_option maxRecDepth 10000 in
theorem c_netCopy (I : SI) (J : SJ) (n o ev : Nat) (N : Nat → Nat → Nat) (bar : Bool) (h : NT I o ev N bar) (hno : o ≠ n) (d : Nat) (hd : 0 < d) : Tri d YX4_copyFrom 117 [vr 16 n, vr 16 o] (S0 I J) (fun r σ => r = none ∧ ∃ I1, σ = S0 I1 J ∧ NT I1 n ev N bar ∧ frN n I I1) := by
  refine Tri.of (M := MX4_copyFrom) k_X4_copyFrom ⟨Nat.le_refl _, Nat.le_refl _⟩ (Nat.le_of_ble_eq_true rfl) ?_
  obtain ⟨h1, h2, h3, h4, h5⟩ := h
  refine Sat.of k_X4_copyFrom [] 60 ?_
  have hb01 : uI I 16 n 2 (I 16 o 2) 16 o 3 = bi bar := by rw [uI_k hno]; exact h2
  refine ⟨?_, hd, by decide, by decide, by decide, by decide, by decide, rfl, rfl, rfl, cI (uI (uI I 16 n 2 (I 16 o 2)) 16 n 3 (uI I 16 n 2 (I 16 o 2) 16 o 3)) 17 o 17 n 0 0 25, rfl, ⟨?_, ?_, h3, h4, fun x y hx hy => ⟨?_, (h5 x y hx hy).2⟩⟩, fun t k hk => ?_⟩
  · show uI I 16 n 2 (I 16 o 2) 16 o 3 = 0 ∨ uI I 16 n 2 (I 16 o 2) 16 o 3 = 1
    rw [hb01]
    exact bi_01 bar
  · rw [cI_ne (by simp), uI_j (by decide), uI_at, h1]
  · rw [cI_ne (by simp), uI_at, hb01]
  · rw [cI_self]
    show va_cpy _ _ 0 0 25 (5 * x + y) = _
    rw [pk_cpy_in (by omega) (by omega), uI_tt (by decide), uI_tt (by decide), Nat.sub_zero, Nat.zero_add]
    exact (h5 x y hx hy).1
  · rw [cI_ne (fun q => hk (by cases q; exact ⟨Or.inr rfl, rfl⟩)), uI_ne (fun q => hk (by cases q; exact ⟨Or.inl rfl, rfl⟩)), uI_ne (fun q => hk (by cases q; exact ⟨Or.inl rfl, rfl⟩))]
set_option maxRecDepth 10000 in
theorem c_empty (I : SI) (J : SJ) (n ev : Nat) (hev : I 16 n 2 = nI ev) (h3 : 2 ≤ ev) (h4 : ev ≤ 5) (d : Nat) : Tri d YX4_empty 117 [vr 16 n] (S0 I J) (fun r σ => r = none ∧ ∃ I1, σ = S0 I1 J ∧ NT I1 n ev (fun _ _ => 0) true ∧ (∀ j, j < 25 → I1 17 n j = 0) ∧ frN n I I1) := by
  refine Tri.of (M := MX4_empty) k_X4_empty ⟨Nat.le_refl _, Nat.le_refl _⟩ (Nat.le_of_ble_eq_true rfl) ?_
  have loop : ∀ (m i : Nat) (I1 : SI), i + m = 25 → frN n I I1 → I1 16 n 2 = nI ev → I1 16 n 3 = 1 → (∀ j, j < i → I1 17 n j = 0) → Sat none MX4_empty d 117 (fun r σ => r = none ∧ ∃ I1, σ = S0 I1 J ∧ NT I1 n ev (fun _ _ => 0) true ∧ (∀ j, j < 25 → I1 17 n j = 0) ∧ frN n I I1) 7 [some (vr 16 n), some (vi (nI i))] [] (S0 I1 J) := by
    intro m
    induction m with
    | zero =>
      intro i I1 hi hf g1 g2 g3
      refine Sat.of k_X4_empty [7] 60 ?_
      refine ⟨fun c => ⟨rfl, rfl, rfl, I1, rfl, ⟨g1, g2, h3, h4, fun x y hx hy => ⟨by rw [g3 _ (by omega)]; rfl, show (0 : Nat) < 8192 by decide⟩⟩, fun j hj => g3 j (by omega), hf⟩, fun c => ?_⟩
      exact absurd (nI_le (a := 25) (by omega) (by omega)) c
    | succ m ih =>
      intro i I1 hi hf g1 g2 g3
      refine Sat.of k_X4_empty [7] 60 ?_
      refine ⟨fun c => absurd ((nI_leI (a := 25) (by omega) (by omega)).mp c) (by omega), fun c => ⟨vp_in_nI (by omega) (by omega), ?_⟩⟩
      refine (ih (i + 1) (uI I1 17 n i 0) (by omega) (hf.u (Or.inr rfl)) (by rw [uI_t (by decide)]; exact g1) (by rw [uI_t (by decide)]; exact g2) (fun j hj => ?_)).to ?_ ?_
      · by_cases e : j = i
        · subst e; exact uI_at
        · rw [uI_j e]; exact g3 j (by omega)
      · rw [← nI_1]; rfl
      · show (uI I1 17 n (nI i).toNatClampNeg 0, J, 117, aT) = _
        rw [nI_clamp (by omega)]
  refine Sat.of k_X4_empty [7] 60 ?_
  exact ⟨Or.inr rfl, loop 25 0 (uI I 16 n 3 1) (by omega) (frN.rf.u (Or.inl rfl)) (by rw [uI_j (by decide)]; exact hev) uI_at (fun j hj => absurd hj (by omega))⟩
