/-! The class: turned, composed, left -/
def oTurned (r : Int32) : Int32 := if isIn r 13 then 12 - r else -1
def oComposed (a b : Int32) : Int32 := if isIn a 8192 && isIn b 8192 then nI (cmps a.toNatClampNeg b.toNatClampNeg) else -1
/-- the answers of left -/
def AL (s : SS) (x y w r : Int32) : Prop := match s with
  | (ev, L, _) => if isIn x ev && isIn y ev then (if w = 0 then r = nI (tol L (Nat.testBit 0) x.toNatClampNeg y.toNatClampNeg) else if w = 1 then (∃ N b, IsCl ev (tol L (Nat.testBit 0)) N b ∧ r = nI (N x.toNatClampNeg y.toNatClampNeg)) else if w = 2 then r = nI (rly (hst ev L 0) x.toNatClampNeg y.toNatClampNeg) else r = -1) else r = -1
set_option maxRecDepth 10000 in
theorem c_turned (I : SI) (J : SJ) (x : Int32) (d : Nat) (hd : 0 < d) : Tri d YX8_turned 117 [vr 25 0, vi x] (S0 I J) (fun r σ => r = some (vi (oTurned x)) ∧ σ = S0 I J) := by
  refine Tri.of (M := MX8_turned) k_X8_turned ⟨Nat.le_refl _, Nat.le_refl _⟩ (Nat.le_of_ble_eq_true rfl) ?_
  refine Sat.of k_X8_turned [] 60 ?_
  refine ⟨0, 117, hd, Nat.le_refl _, (isRel_t I J x 0).mono ?_⟩
  rintro r σ ⟨rfl, rfl⟩
  refine ⟨fun c => ⟨rfl, trivial, ?_, rfl⟩, fun c => ⟨rfl, trivial, ?_, rfl⟩⟩
  · unfold oTurned
    rw [if_neg (by rw [bi_f c]; decide)]
  · unfold oTurned
    rw [if_pos (bi_t c)]
set_option maxRecDepth 10000 in
theorem c_composed (I : SI) (J : SJ) (a b : Int32) (hA : ALG I) (d : Nat) (hd : 0 < d) : Tri d YX8_composed 117 [vr 25 0, vi a, vi b] (S0 I J) (fun r σ => r = some (vi (oComposed a b)) ∧ σ = S0 I J) := by
  refine Tri.of (M := MX8_composed) k_X8_composed ⟨Nat.le_refl _, Nat.le_refl _⟩ (Nat.le_of_ble_eq_true rfl) ?_
  refine Sat.of k_X8_composed [] 60 ?_
  refine ⟨0, 117, hd, Nat.le_refl _, (isSet_t I J a 0).mono ?_⟩
  rintro r σ ⟨rfl, rfl⟩
  refine ⟨fun c => ⟨rfl, trivial, ?_, rfl⟩, fun c => ⟨0, 117, hd, Nat.le_refl _, (isSet_t I J b 0).mono ?_⟩⟩
  · unfold oComposed
    rw [if_neg (by rw [bi_f c, Bool.false_and]; decide)]
  · have ha := bi_t c
    rintro r σ ⟨rfl, rfl⟩
    refine ⟨fun c1 => ?_, fun c1 => ⟨rfl, trivial, ?_, rfl⟩⟩
    · have hb := bi_t c1
      obtain ⟨i, i1, rfl⟩ := isIn_of ha (by decide)
      obtain ⟨j, j1, rfl⟩ := isIn_of hb (by decide)
      refine ⟨0, 117, hd, Nat.le_refl _, (c_compose I J i j hA i1 j1 0).mono ?_⟩
      rintro r σ ⟨rfl, rfl⟩
      refine ⟨rfl, trivial, ?_, rfl⟩
      unfold oComposed
      rw [if_pos (by rw [ha, hb]; rfl), nI_clamp (by omega), nI_clamp (by omega)]
    · have hb := bi_f c1
      unfold oComposed
      rw [if_neg (by rw [hb, Bool.and_false]; decide)]
set_option maxRecDepth 10000 in
theorem c_left (I : SI) (J : SJ) (s : SS) (x y w : Int32) (h : CR I J s) (d : Nat) (hd : 21 < d) : Tri d YX8_left 117 [vr 25 0, vi x, vi y, vi w] (S0 I J) (fun r σ => ∃ v I1 J1, r = some (vi v) ∧ AL s x y w v ∧ σ = S0 I1 J1 ∧ CR I1 J1 s ∧ frC I I1) := by
  refine Tri.of (M := MX8_left) k_X8_left ⟨Nat.le_refl _, Nat.le_refl _⟩ (Nat.le_of_ble_eq_true rfl) ?_
  obtain ⟨ev, L, H, img, kp, S, n, t⟩ := s
  have hB := h.1.2.1
  have h5 := hB.2.2.2.2.1
  have no : (isIn x ev && isIn y ev) = false → AL (ev, L, H, img, kp, S, n, t) x y w (-1) := fun q => by
    simp only [AL]
    rw [q, if_neg (by decide)]
    trivial
  refine Sat.of k_X8_left [] 60 ?_
  refine ⟨0, 117, by omega, Nat.le_refl _, (c_isEvent I J 1 ev L x hB 0).mono ?_⟩
  rintro r σ ⟨rfl, rfl⟩
  refine ⟨fun c => ⟨rfl, trivial, _, I, J, rfl, no (by rw [bi_f c, Bool.false_and]), rfl, h, fun _ _ _ => rfl⟩, fun c => ⟨0, 117, by omega, Nat.le_refl _, (c_isEvent I J 1 ev L y hB 0).mono ?_⟩⟩
  rintro r σ ⟨rfl, rfl⟩
  refine ⟨fun c1 => ?_, fun c1 => ⟨rfl, trivial, _, I, J, rfl, no (by rw [bi_f c1, Bool.and_false]), rfl, h, fun _ _ _ => rfl⟩⟩
  have hx := bi_t c
  have hy := bi_t c1
  obtain ⟨i, i1, rfl⟩ := isIn_of hx (by omega)
  obtain ⟨j, j1, rfl⟩ := isIn_of hy (by omega)
  have ei : (nI i).toNatClampNeg = i := nI_clamp (by omega)
  have ej : (nI j).toNatClampNeg = j := nI_clamp (by omega)
  have yes : (isIn (nI i) ev && isIn (nI j) ev) = true := by rw [hx, hy]; rfl
  refine ⟨⟨fun c2 => ⟨4, 117, by omega, Nat.le_refl _, (c_toldNet I J ev L h.1 4 (by decide)).mono ?_⟩, fun c2 => ⟨4, 117, by omega, Nat.le_refl _, (c_closedNet I J ev L h.1 4 (by decide)).mono ?_⟩, fun c2 => ⟨21, 117, hd, Nat.le_refl _, (c_reallyNet I J ev L h.1 h.2.1 21 (by decide)).mono ?_⟩, trivial⟩, fun c2 c3 c4 => ⟨rfl, trivial, _, I, J, rfl, ?_, rfl, h, fun _ _ _ => rfl⟩⟩
  · rintro r σ ⟨rfl, I1, rfl, ⟨bar, q1, _⟩, q2, q3, q4⟩
    refine ⟨0, 117, by omega, Nat.le_refl _, (c_at I1 J 0 ev i j _ bar q1 i1 j1 0).mono ?_⟩
    rintro r σ ⟨rfl, rfl⟩
    refine ⟨rfl, trivial, _, I1, J, rfl, ?_, rfl, h.F q3 q2 (h.2.1.k q4), q3.C⟩
    have c2 : w = 0 := c2
    simp only [AL]
    rw [if_pos yes, if_pos c2, ei, ej]
  · rintro r σ ⟨rfl, I1, rfl, q1, ⟨Nc, bc, ww, fa, z1, z2, _, _, _⟩, q3, q4⟩
    refine ⟨0, 117, by omega, Nat.le_refl _, (c_at I1 J 1 ev i j _ bc z1 i1 j1 0).mono ?_⟩
    rintro r σ ⟨rfl, rfl⟩
    refine ⟨rfl, trivial, _, I1, J, rfl, ?_, rfl, h.F q3 q1 (h.2.1.k q4), q3.C⟩
    have c2 : w = 1 := c2
    simp only [AL]
    rw [if_pos yes, if_neg (show ¬ w = 0 by rw [c2]; decide), if_pos c2, ei, ej]
    exact ⟨Nc, bc, z2, rfl⟩
  · rintro r σ ⟨rfl, I1, J1, rfl, q1, q2, q3, q4⟩
    have hRN : RN I1 2 ev (rly (hst ev L 0)) := fun a b ha hb => ⟨q3 a b ha hb, by
      unfold rly
      split
      · split <;> decide
      · refine Nat.lt_of_le_of_lt (m := 8191) ?_ (by decide)
        have : ∀ T : List HS, (∀ l ∈ T, relH l a b < 13) → orL a b T < 8192 := fun T => by
          induction T with
          | nil => intro _; simp [orL]
          | cons l T ih =>
            intro hT
            exact Nat.or_lt_two_pow (n := 13) (pow_lt13 (hT l List.mem_cons_self)) (ih (fun l1 h1 => hT l1 (List.mem_cons_of_mem _ h1)))
        have := this (hst ev L 0) (fun l hl => ((sols_good h5 hl).l13 h5).rel ha hb)
        omega⟩
    refine ⟨0, 117, by omega, Nat.le_refl _, (c_atR I1 J1 2 ev i j _ hRN h5 i1 j1 0).mono ?_⟩
    rintro r σ ⟨rfl, rfl⟩
    refine ⟨rfl, trivial, _, I1, J1, rfl, ?_, rfl, h.F q4 q1 q2, q4.C⟩
    have c2 : w = 2 := c2
    simp only [AL]
    rw [if_pos yes, if_neg (show ¬ w = 0 by rw [c2]; decide), if_neg (show ¬ w = 1 by rw [c2]; decide), if_pos c2, ei, ej]
  · have c2 : ¬ w = 0 := c2
    have c3 : ¬ w = 1 := c3
    have c4 : ¬ w = 2 := c4
    simp only [AL]
    rw [if_pos yes, if_neg c2, if_neg c3, if_neg c4]
    trivial
