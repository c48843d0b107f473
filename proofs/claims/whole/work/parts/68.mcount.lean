/-! The model: point, count, letters, what is seen -/
theorem MB.k2 {I I1 : SI} {ev : Nat} {L : List Ob} (h : MB I ev L) (h6 : I1 29 0 6 = I 29 0 6) (h30 : I1 30 0 = I 30 0) (h38 : I1 38 0 = I 38 0) (h39 : I1 39 0 = I 39 0) (h40 : I1 40 0 = I 40 0) : MB I1 ev L := by
  obtain ⟨q1, q2, q3, q4, q5, q6⟩ := h
  refine ⟨by rw [h6]; exact q1, q2, q3, q4.k h30, q5, ?_⟩
  unfold MC at q6 ⊢
  rw [h38, h39, h40]
  exact q6
theorem LAY.k2 {I I1 : SI} {ev : Nat} {L : List Ob} (h : LAY I ev L) (h18 : I1 29 0 18 = I 29 0 18) (h19 : I1 29 0 19 = I 29 0 19) (h43 : I1 43 0 = I 43 0) (h44 : I1 44 0 = I 44 0) (h45 : I1 45 0 = I 45 0) : LAY I1 ev L := by
  obtain ⟨ld, h1, h2⟩ := h
  refine ⟨ld, by rw [h18]; exact h1, fun q => ?_⟩
  have := h2 q
  unfold LD at this ⊢
  rw [h19, h43, h44, h45]
  exact this
theorem hst_0 {ev : Nat} {L : List Ob} (hp : 0 < (hst ev L 0).length) : nthD (hst ev L 0) 0 h00 ∈ hst ev L 0 := by
  revert hp
  cases hst ev L 0 with
  | nil => intro hp; exact absurd hp (by simp)
  | cons a r => intro _; exact List.mem_cons_self
theorem hst_13 {ev : Nat} {L : List Ob} (h5 : ev ≤ 5) (hp : 0 < (hst ev L 0).length) : L13 ev (nthD (hst ev L 0) 0 h00) := (sols_good h5 (hst_0 hp)).l13 h5
set_option maxRecDepth 10000 in
theorem m_point (I : SI) (J : SJ) (s : SS) (x e : Int32) (h : MR I s) (d : Nat) (hd : 5 < d) : Tri d YX9_point 117 [vr 29 0, vi x, vi e] (S0 I J) (fun r σ => ∃ v I1, r = some (vi v) ∧ (∀ u, APt s x e u → u = v) ∧ σ = S0 I1 J ∧ MR I1 s ∧ frK I I1) := by
  refine Tri.of (M := MX9_point) k_X9_point ⟨Nat.le_refl _, Nat.le_refl _⟩ (Nat.le_of_ble_eq_true rfl) ?_
  obtain ⟨ev, L, H, img, kp, S, n, t⟩ := s
  have hB : MB I ev L := h.1
  have h5 := hB.2.2.1
  have no : (isIn x ev && isIn e 2) = false → ∀ u, APt (ev, L, H, img, kp, S, n, t) x e u → u = -1 := fun q u hu => by
    simp only [APt] at hu
    rw [q, if_neg (by decide)] at hu
    exact hu
  refine Sat.of k_X9_point [] 60 ?_
  refine ⟨1, 117, by omega, Nat.le_refl _, (m_isEvent I J ev x hB.1 h5 1 (by decide)).mono ?_⟩
  rintro r σ ⟨rfl, rfl⟩
  refine ⟨fun c => ⟨rfl, trivial, _, I, rfl, no (by rw [bi_f c, Bool.false_and]), rfl, h, frK.rf⟩, fun c => ⟨0, 117, by omega, Nat.le_refl _, (m_in I J e 0 (nI 1) 0).mono ?_⟩⟩
  rintro r σ ⟨rfl, rfl⟩
  rw [inB_lit e 1 (by decide)]
  refine ⟨fun c1 => ?_, fun c1 => ⟨rfl, trivial, _, I, rfl, no (by rw [bi_f c1, Bool.and_false]), rfl, h, frK.rf⟩⟩
  have hx := bi_t c
  have he := bi_t c1
  obtain ⟨i, i1, rfl⟩ := isIn_of hx (by omega)
  obtain ⟨j, j1, rfl⟩ := isIn_of he (by decide)
  have ei : (nI i).toNatClampNeg = i := nI_clamp (by omega)
  have ej : (nI j).toNatClampNeg = j := nI_clamp (by omega)
  have yes : (isIn (nI i) ev && isIn (nI j) 2) = true := by rw [hx]; exact he
  refine ⟨5, 117, hd, Nat.le_refl _, (m_lays I J ev L H img kp S n t h 5 (by decide)).mono ?_⟩
  rintro r σ ⟨rfl, I1, rfl, hR, hL, hK⟩
  refine ⟨fun c2 => ⟨rfl, trivial, _, I1, rfl, fun u hu => ?_, rfl, hR, hK⟩, fun c2 => ?_⟩
  · have c2 : I1 29 0 19 = 0 := c2
    rw [hL.1] at c2
    have hp := of_decide_eq_false (bi_f c2)
    simp only [APt] at hu
    rw [if_pos yes, if_neg hp] at hu
    exact hu
  · have c2 : ¬ I1 29 0 19 = 0 := c2
    rw [hL.1] at c2
    have hp := of_decide_eq_true (bi_t c2)
    have h13 := hst_13 (L := L) h5 hp
    have ek : (2 : Int32) * nI i + nI j = nI (2 * i + j) := by rw [show (2 : Int32) = nI 2 from rfl, pk_mul, nI_add]
    refine ⟨2, 117, by omega, Nat.le_refl _, (m_timesAhead I1 J ev (nthD (hst ev L 0) 0 h00) (some (2 * i + j)) hR.1.1 hR.1.2.2.2.2.2 (hL.2.1 hp) h13 h5 (fun k hk => by cases hk; omega) 2 (by decide)).to ?_ rfl ?_⟩
    · show [vr 29 0, vi ((2 : Int32) * nI i + nI j)] = _
      rw [ek]
      rfl
    · rintro r σ ⟨rfl, rfl⟩
      refine ⟨rfl, trivial, _, I1, rfl, fun u hu => ?_, rfl, hR, hK⟩
      simp only [APt] at hu
      rw [if_pos yes, if_pos hp, ei, ej] at hu
      obtain ⟨B, E, g1, g2, rfl⟩ := hu
      rw [mPts_k g1 g2 h13 (by omega)]
set_option maxRecDepth 10000 in
theorem m_count (I : SI) (J : SJ) (s : SS) (w : Int32) (h : MR I s) (d : Nat) (hd : 5 < d) : Tri d YX9_count 117 [vr 29 0, vi w] (S0 I J) (fun r σ => ∃ v I1, r = some (vi v) ∧ (∀ u, ACt s w u → u = v) ∧ σ = S0 I1 J ∧ MR I1 s ∧ frK I I1) := by
  refine Tri.of (M := MX9_count) k_X9_count ⟨Nat.le_refl _, Nat.le_refl _⟩ (Nat.le_of_ble_eq_true rfl) ?_
  obtain ⟨ev, L, H, img, kp, S, n, t⟩ := s
  have hB : MB I ev L := h.1
  have h5 := hB.2.2.1
  have hR0 := hB.2.2.2.1
  have hP : MPT I H := h.2.2.1
  have hS : MSN I S := h.2.2.2.2.2.2.1
  have hX : MTX I n t := h.2.2.2.2.2.2.2.2
  refine Sat.of k_X9_count [] 60 ?_
  refine ⟨⟨fun c => ⟨rfl, trivial, _, I, rfl, fun u hu => ?_, rfl, h, frK.rf⟩, fun c => ⟨vp_in_nI (n := 0) (by decide) (by decide), rfl, trivial, _, I, rfl, fun u hu => ?_, rfl, h, frK.rf⟩, fun c => ⟨rfl, trivial, _, I, rfl, fun u hu => ?_, rfl, h, frK.rf⟩, fun c => ⟨rfl, trivial, _, I, rfl, fun u hu => ?_, rfl, h, frK.rf⟩, fun c => ⟨rfl, trivial, _, I, rfl, fun u hu => ?_, rfl, h, frK.rf⟩, fun c => ⟨5, 117, hd, Nat.le_refl _, (m_lays I J ev L H img kp S n t h 5 (by decide)).mono ?_⟩, trivial⟩, fun c0 c1 c2 c3 c4 c5 => ⟨rfl, trivial, _, I, rfl, fun u hu => ?_, rfl, h, frK.rf⟩⟩
  · have c : w = 0 := c
    simp only [ACt] at hu
    rw [if_pos c] at hu
    rw [hu]
    exact hB.1.symm
  · have c : w = 1 := c
    simp only [ACt] at hu
    rw [if_neg (show ¬ w = 0 by rw [c]; decide), if_pos c] at hu
    rw [hu]
    show _ = I 30 0 (nI 0).toNatClampNeg
    rw [nI_clamp (by decide)]
    exact hR0.1.symm
  · have c : w = 2 := c
    simp only [ACt] at hu
    rw [if_neg (show ¬ w = 0 by rw [c]; decide), if_neg (show ¬ w = 1 by rw [c]; decide), if_pos c] at hu
    rw [hu]
    exact hS.1.symm
  · have c : w = 3 := c
    simp only [ACt] at hu
    rw [if_neg (show ¬ w = 0 by rw [c]; decide), if_neg (show ¬ w = 1 by rw [c]; decide), if_neg (show ¬ w = 2 by rw [c]; decide), if_pos c] at hu
    rw [hu]
    exact hX.1.symm
  · have c : w = 4 := c
    simp only [ACt] at hu
    rw [if_neg (show ¬ w = 0 by rw [c]; decide), if_neg (show ¬ w = 1 by rw [c]; decide), if_neg (show ¬ w = 2 by rw [c]; decide), if_neg (show ¬ w = 3 by rw [c]; decide), if_pos c] at hu
    rw [hu]
    exact hP.1.symm
  · have c : w = 5 := c
    have ea : ∀ u, ACt (ev, L, H, img, kp, S, n, t) w u → (if 0 < (hst ev L 0).length then ∃ B E, GP 1 ev B E ∧ ONL ev B E (nthD (hst ev L 0) 0 h00) ∧ u = nI (ptsA ev B E 243) else u = -9) := fun u hu => by
      simp only [ACt] at hu
      rw [if_neg (show ¬ w = 0 by rw [c]; decide), if_neg (show ¬ w = 1 by rw [c]; decide), if_neg (show ¬ w = 2 by rw [c]; decide), if_neg (show ¬ w = 3 by rw [c]; decide), if_neg (show ¬ w = 4 by rw [c]; decide), if_pos c] at hu
      exact hu
    rintro r σ ⟨rfl, I1, rfl, hR, hL, hK⟩
    refine ⟨fun c2 => ⟨rfl, trivial, _, I1, rfl, fun u hu => ?_, rfl, hR, hK⟩, fun c2 => ?_⟩
    · have c2 : I1 29 0 19 = 0 := c2
      rw [hL.1] at c2
      have hp := of_decide_eq_false (bi_f c2)
      have := ea u hu
      rw [if_neg hp] at this
      exact this
    · have c2 : ¬ I1 29 0 19 = 0 := c2
      rw [hL.1] at c2
      have hp := of_decide_eq_true (bi_t c2)
      have h13 := hst_13 (L := L) h5 hp
      refine ⟨2, 117, by omega, Nat.le_refl _, (m_timesAhead I1 J ev (nthD (hst ev L 0) 0 h00) none hR.1.1 hR.1.2.2.2.2.2 (hL.2.1 hp) h13 h5 (fun k hk => by cases hk) 2 (by decide)).mono ?_⟩
      rintro r σ ⟨rfl, rfl⟩
      refine ⟨rfl, trivial, _, I1, rfl, fun u hu => ?_, rfl, hR, hK⟩
      have := ea u hu
      rw [if_pos hp] at this
      obtain ⟨B, E, g1, g2, rfl⟩ := this
      rw [mPts_n g1 g2 h13]
  · have c0 : ¬ w = 0 := c0
    have c1 : ¬ w = 1 := c1
    have c2 : ¬ w = 2 := c2
    have c3 : ¬ w = 3 := c3
    have c4 : ¬ w = 4 := c4
    have c5 : ¬ w = 5 := c5
    simp only [ACt] at hu
    rw [if_neg c0, if_neg c1, if_neg c2, if_neg c3, if_neg c4, if_neg c5] at hu
    exact hu
/-- a change of one field of the model, and of its letters, or of what is seen -/
theorem MR.let {I I1 : SI} {ev : Nat} {L : List Ob} {H : List (List Ob)} {img : Nat → List Ob} {kp : Nat → Bool} {S S1 : List Ob} {n n1 : Nat} {t t1 : Nat → Nat} (h : MR I (ev, L, H, img, kp, S, n, t)) (hf : ∀ a b, ¬ (a = 29 ∨ a = 46 ∨ (35 ≤ a ∧ a ≤ 37)) → I1 a b = I a b) (hj : ∀ j, j ≠ 10 → j ≠ 22 → I1 29 0 j = I 29 0 j) (hS : MSN I1 S1) (hw : WFs ev S1) (hX : MTX I1 n1 t1) : MR I1 (ev, L, H, img, kp, S1, n1, t1) := by
  obtain ⟨h1, h2, h3, h4, h5, h6, h7, h8, h9⟩ := h
  exact ⟨h1.k2 (hj 6 (by decide) (by decide)) (hf 30 0 (by omega)) (hf 38 0 (by omega)) (hf 39 0 (by omega)) (hf 40 0 (by omega)), h2.k2 (hj 18 (by decide) (by decide)) (hj 19 (by decide) (by decide)) (hf 43 0 (by omega)) (hf 44 0 (by omega)) (hf 45 0 (by omega)), h3.k (hj 3 (by decide) (by decide)) (hf 32 0 (by omega)), h4, h5.k (hf 34 0 (by omega)) (hf 33 0 (by omega)), h6, hS, hw, hX⟩
set_option maxRecDepth 10000 in
theorem m_clear (I : SI) (J : SJ) (s : SS) (h : MR I s) (d : Nat) : Tri d YX9_clear 117 [vr 29 0] (S0 I J) (fun r σ => r = some (vi (oClear s).1) ∧ ∃ I1, σ = S0 I1 J ∧ MR I1 (oClear s).2 ∧ frK I I1) := by
  refine Tri.of (M := MX9_clear) k_X9_clear ⟨Nat.le_refl _, Nat.le_refl _⟩ (Nat.le_of_ble_eq_true rfl) ?_
  obtain ⟨ev, L, H, img, kp, S, n, t⟩ := s
  have hS : MSN I S := h.2.2.2.2.2.2.1
  have hX : MTX I n t := h.2.2.2.2.2.2.2.2
  refine Sat.of k_X9_clear [] 60 ?_
  refine ⟨rfl, trivial, ?_, uI I 29 0 22 0, rfl, h.let (fun a b q => uI_tt (by omega)) (fun j _ q => uI_j q) (hS.k (uI_j (by decide)) (uI_tt (by decide)) (uI_tt (by decide)) (uI_tt (by decide))) h.2.2.2.2.2.2.2.1 ⟨uI_at, by omega, fun i hi => absurd hi (by omega)⟩, fun a b q => uI_tt (by omega)⟩
  show some (vi (I 29 0 22)) = _
  rw [hX.1]
  rfl
set_option maxRecDepth 10000 in
theorem m_forget (I : SI) (J : SJ) (s : SS) (h : MR I s) (d : Nat) : Tri d YX9_forget 117 [vr 29 0] (S0 I J) (fun r σ => r = some (vi (oForget s).1) ∧ ∃ I1, σ = S0 I1 J ∧ MR I1 (oForget s).2 ∧ frK I I1) := by
  refine Tri.of (M := MX9_forget) k_X9_forget ⟨Nat.le_refl _, Nat.le_refl _⟩ (Nat.le_of_ble_eq_true rfl) ?_
  obtain ⟨ev, L, H, img, kp, S, n, t⟩ := s
  have hS : MSN I S := h.2.2.2.2.2.2.1
  have hX : MTX I n t := h.2.2.2.2.2.2.2.2
  refine Sat.of k_X9_forget [] 60 ?_
  refine ⟨rfl, trivial, ?_, uI I 29 0 10 0, rfl, h.let (fun a b q => uI_tt (by omega)) (fun j q _ => uI_j q) ⟨uI_at, by simp, fun j hj => absurd hj (by simp)⟩ (fun j hj => absurd hj (by simp)) (hX.k (uI_j (by decide)) (uI_tt (by decide))), fun a b q => uI_tt (by omega)⟩
  show some (vi (I 29 0 10)) = _
  rw [hS.1]
  rfl
set_option maxRecDepth 10000 in
theorem m_type (I : SI) (J : SJ) (s : SS) (c : Int32) (h : MR I s) (d : Nat) (hd : 0 < d) : Tri d YX9_type 117 [vr 29 0, vi c] (S0 I J) (fun r σ => r = some (vi (oType s c).1) ∧ ∃ I1, σ = S0 I1 J ∧ MR I1 (oType s c).2 ∧ frK I I1) := by
  refine Tri.of (M := MX9_type) k_X9_type ⟨Nat.le_refl _, Nat.le_refl _⟩ (Nat.le_of_ble_eq_true rfl) ?_
  obtain ⟨ev, L, H, img, kp, S, n, t⟩ := s
  have hS : MSN I S := h.2.2.2.2.2.2.1
  obtain ⟨l1, l2, l3⟩ : MTX I n t := h.2.2.2.2.2.2.2.2
  refine Sat.of k_X9_type [] 60 ?_
  refine ⟨0, 117, hd, Nat.le_refl _, (m_in I J c 0 (nI 255) 0).mono ?_⟩
  rintro r σ ⟨rfl, rfl⟩
  rw [inB_lit c 255 (by decide)]
  refine ⟨fun q => ?_, fun q => ⟨rfl, trivial, ?_⟩⟩
  · have hin := bi_t q
    obtain ⟨j, j1, j2⟩ := isIn_of hin (by decide)
    have ecl : c.toNatClampNeg = j := by rw [j2, nI_clamp (by omega)]
    have en : (I 29 0 22).toNatClampNeg = n := by rw [l1, nI_clamp (by omega)]
    refine ⟨fun q2 => ?_, fun q2 => ⟨rfl, trivial, ?_⟩⟩
    · have q2 : ¬ I 29 0 22 = nI 160 := q2
      rw [l1] at q2
      have hn : n < 160 := by
        rcases Nat.lt_or_ge n 160 with z | z
        · exact z
        · exact absurd (by rw [show n = 160 by omega]) q2
      have e : oType (ev, L, H, img, kp, S, n, t) c = (nI (n + 1), (ev, L, H, img, kp, S, n + 1, put1 t n c.toNatClampNeg)) := by
        simp only [oType]
        rw [if_pos hin, if_pos hn]
      rw [e]
      refine ⟨?_, rfl, trivial, ?_, uI (uI I 46 0 n c) 29 0 22 (nI (n + 1)), ?_, h.let (fun a b q => by rw [uI_tt (by omega), uI_tt (by omega)]) (fun j _ q => by rw [uI_j q, uI_t (by decide)]) (hS.k (by rw [uI_j (by decide), uI_t (by decide)]) (by rw [uI_tt (by decide), uI_tt (by decide)]) (by rw [uI_tt (by decide), uI_tt (by decide)]) (by rw [uI_tt (by decide), uI_tt (by decide)])) h.2.2.2.2.2.2.2.1 ⟨uI_at, by omega, fun i hi => ?_⟩, fun a b q => by rw [uI_tt (by omega), uI_tt (by omega)]⟩
      · show vp_in (I 29 0 22) 160
        rw [l1]
        exact vp_in_nI hn (by decide)
      · show some (vi (uI (uI I 46 0 (I 29 0 22).toNatClampNeg c) 29 0 22 (uI I 46 0 (I 29 0 22).toNatClampNeg c 29 0 22 + 1) 29 0 22)) = _
        rw [uI_at, uI_t (by decide), l1, nI_1]
      · show (uI (uI I 46 0 (I 29 0 22).toNatClampNeg c) 29 0 22 (uI I 46 0 (I 29 0 22).toNatClampNeg c 29 0 22 + 1), J, 117, aT) = _
        rw [uI_t (by decide), en, l1, nI_1]
      · rw [uI_t (by decide)]
        by_cases ei : i = n
        · subst ei
          rw [uI_at, put1_at, ecl]
          exact ⟨j2, by omega⟩
        · rw [uI_j ei, put1_ne ei]
          exact l3 i (by omega)
    · have q2 : I 29 0 22 = nI 160 := q2
      rw [l1, nI_eq (by omega) (by decide)] at q2
      have e : oType (ev, L, H, img, kp, S, n, t) c = (-3, (ev, L, H, img, kp, S, n, t)) := by
        simp only [oType]
        rw [if_pos hin, if_neg (by omega)]
      rw [e]
      exact ⟨rfl, I, rfl, h, frK.rf⟩
  · have e : oType (ev, L, H, img, kp, S, n, t) c = (-1, (ev, L, H, img, kp, S, n, t)) := by
      simp only [oType]
      rw [if_neg (by rw [bi_f q]; decide)]
    rw [e]
    exact ⟨rfl, I, rfl, h, frK.rf⟩
set_option maxRecDepth 10000 in
theorem m_sees (I : SI) (J : SJ) (s : SS) (x r y : Int32) (h : MR I s) (d : Nat) (hd : 2 < d) : Tri d YX9_sees 117 [vr 29 0, vi x, vi r, vi y] (S0 I J) (fun v σ => v = some (vi (oSees s x r y).1) ∧ ∃ I1, σ = S0 I1 J ∧ MR I1 (oSees s x r y).2 ∧ frK I I1) := by
  refine Tri.of (M := MX9_sees) k_X9_sees ⟨Nat.le_refl _, Nat.le_refl _⟩ (Nat.le_of_ble_eq_true rfl) ?_
  obtain ⟨ev, L, H, img, kp, S, n, t⟩ := s
  have hB : MB I ev L := h.1
  have h5 := hB.2.2.1
  obtain ⟨l1, l2, l3⟩ : MSN I S := h.2.2.2.2.2.2.1
  have hSw : WFs ev S := h.2.2.2.2.2.2.2.1
  have hX : MTX I n t := h.2.2.2.2.2.2.2.2
  have bad : (two x y ev && isIn r 13) = false → some (vi (-1 : Int32)) = some (vi (oSees (ev, L, H, img, kp, S, n, t) x r y).1) ∧ ∃ I1, S0 I J = S0 I1 J ∧ MR I1 (oSees (ev, L, H, img, kp, S, n, t) x r y).2 ∧ frK I I1 := fun q => by
    have e : oSees (ev, L, H, img, kp, S, n, t) x r y = (-1, (ev, L, H, img, kp, S, n, t)) := by
      simp only [oSees]
      rw [if_neg (by rw [q]; decide)]
    rw [e]
    exact ⟨rfl, I, rfl, h, frK.rf⟩
  refine Sat.of k_X9_sees [] 60 ?_
  refine ⟨2, 117, hd, Nat.le_refl _, (m_areTwo I J ev x y hB.1 h5 2 (by decide)).mono ?_⟩
  rintro v σ ⟨rfl, rfl⟩
  refine ⟨fun c => ⟨rfl, trivial, bad (by rw [bi_f c, Bool.false_and])⟩, fun c => ⟨0, 117, by omega, Nat.le_refl _, (m_in I J r 0 (nI 12) 0).mono ?_⟩⟩
  rintro v σ ⟨rfl, rfl⟩
  rw [inB_lit r 12 (by decide)]
  refine ⟨fun c1 => ?_, fun c1 => ⟨rfl, trivial, bad (by rw [bi_f c1, Bool.and_false])⟩⟩
  have ht := bi_t c
  have hr := bi_t c1
  have yes : (two x y ev && isIn r 13) = true := by rw [ht]; exact hr
  obtain ⟨i, j, i1, j1, hij, rfl, rfl⟩ := two_of ht (by omega)
  obtain ⟨k, k1, rfl⟩ := isIn_of hr (by decide)
  refine ⟨fun c2 => ?_, fun c2 => ⟨rfl, trivial, ?_⟩⟩
  · have c2 : ¬ I 29 0 10 = nI 6 := c2
    rw [l1] at c2
    have hn : S.length < 6 := by
      rcases Nat.lt_or_ge S.length 6 with z | z
      · exact z
      · exact absurd (by rw [show S.length = 6 by omega]) c2
    have e : oSees (ev, L, H, img, kp, S, n, t) (nI i) (nI k) (nI j) = (nI (S.length + 1), (ev, L, H, img, kp, S ++ [(i, k, j)], n, t)) := by
      simp only [oSees]
      rw [if_pos yes, if_pos hn, nI_clamp (by omega), nI_clamp (by omega), nI_clamp (by omega)]
    rw [e]
    generalize hm : S.length = m at l1 hn
    have em : (nI m).toNatClampNeg = m := nI_clamp (by omega)
    have hv : vp_in (nI m) 6 := vp_in_nI hn (by decide)
    have g1 : ∀ u, uI I 35 0 u (nI i) 29 0 10 = nI m := fun u => by rw [uI_t (by decide)]; exact l1
    have g2 : ∀ u u1, uI (uI I 35 0 u (nI i)) 36 0 u1 (nI k) 29 0 10 = nI m := fun u u1 => by rw [uI_t (by decide), uI_t (by decide)]; exact l1
    have g3 : ∀ u u1 u2, uI (uI (uI I 35 0 u (nI i)) 36 0 u1 (nI k)) 37 0 u2 (nI j) 29 0 10 = nI m := fun u u1 u2 => by rw [uI_t (by decide), uI_t (by decide), uI_t (by decide)]; exact l1
    refine ⟨?_, ?_, ?_, rfl, trivial, ?_, uI (uI (uI (uI I 35 0 m (nI i)) 36 0 m (nI k)) 37 0 m (nI j)) 29 0 10 (nI (m + 1)), ?_, ?_, fun a b q => by rw [uI_tt (by omega), uI_tt (by omega), uI_tt (by omega), uI_tt (by omega)]⟩
    · show vp_in (I 29 0 10) 6
      rw [l1]
      exact hv
    · show vp_in (uI I 35 0 (I 29 0 10).toNatClampNeg (nI i) 29 0 10) 6
      rw [g1]
      exact hv
    · show vp_in (uI (uI I 35 0 (I 29 0 10).toNatClampNeg (nI i)) 36 0 (uI I 35 0 (I 29 0 10).toNatClampNeg (nI i) 29 0 10).toNatClampNeg (nI k) 29 0 10) 6
      rw [g2]
      exact hv
    · show some (vi (uI (uI (uI (uI I 35 0 (I 29 0 10).toNatClampNeg (nI i)) 36 0 (uI I 35 0 (I 29 0 10).toNatClampNeg (nI i) 29 0 10).toNatClampNeg (nI k)) 37 0 (uI (uI I 35 0 (I 29 0 10).toNatClampNeg (nI i)) 36 0 (uI I 35 0 (I 29 0 10).toNatClampNeg (nI i) 29 0 10).toNatClampNeg (nI k) 29 0 10).toNatClampNeg (nI j)) 29 0 10 _ 29 0 10)) = _
      rw [uI_at, g3, nI_1]
    · show (uI (uI (uI (uI I 35 0 (I 29 0 10).toNatClampNeg (nI i)) 36 0 (uI I 35 0 (I 29 0 10).toNatClampNeg (nI i) 29 0 10).toNatClampNeg (nI k)) 37 0 (uI (uI I 35 0 (I 29 0 10).toNatClampNeg (nI i)) 36 0 (uI I 35 0 (I 29 0 10).toNatClampNeg (nI i) 29 0 10).toNatClampNeg (nI k) 29 0 10).toNatClampNeg (nI j)) 29 0 10 (uI (uI (uI I 35 0 (I 29 0 10).toNatClampNeg (nI i)) 36 0 (uI I 35 0 (I 29 0 10).toNatClampNeg (nI i) 29 0 10).toNatClampNeg (nI k)) 37 0 (uI (uI I 35 0 (I 29 0 10).toNatClampNeg (nI i)) 36 0 (uI I 35 0 (I 29 0 10).toNatClampNeg (nI i) 29 0 10).toNatClampNeg (nI k) 29 0 10).toNatClampNeg (nI j) 29 0 10 + 1), J, 117, aT) = _
      rw [g3, g2, g1, l1, em, nI_1]
    · refine h.let (fun a b q => by rw [uI_tt (by omega), uI_tt (by omega), uI_tt (by omega), uI_tt (by omega)]) (fun j q _ => by rw [uI_j q, uI_t (by decide), uI_t (by decide), uI_t (by decide)]) ⟨?_, ?_, fun q hq => ?_⟩ (hSw.snoc i1 j1 hij k1) (hX.k (by rw [uI_j (by decide), uI_t (by decide), uI_t (by decide), uI_t (by decide)]) (by rw [uI_tt (by decide), uI_tt (by decide), uI_tt (by decide), uI_tt (by decide)]))
      · rw [uI_at, List.length_append, hm]
        rfl
      · rw [List.length_append, hm]
        show m + 1 ≤ 6
        omega
      · rw [List.length_append, hm] at hq
        have hq : q < m + 1 := hq
        rw [nthD_snoc, hm]
        by_cases e1 : q < m
        · rw [if_pos e1]
          have hne : q ≠ m := by omega
          have := l3 q (by omega)
          rw [uI_t (by decide), uI_t (by decide), uI_t (by decide), uI_j hne, uI_t (by decide), uI_t (by decide), uI_j hne, uI_t (by decide), uI_t (by decide), uI_j hne, uI_t (by decide), uI_t (by decide)]
          exact this
        · have e2 : q = m := by omega
          subst e2
          rw [if_neg (by omega), if_pos rfl, uI_t (by decide), uI_t (by decide), uI_t (by decide), uI_at, uI_t (by decide), uI_t (by decide), uI_at, uI_t (by decide), uI_at]
          exact ⟨rfl, rfl, rfl⟩
  · have c2 : I 29 0 10 = nI 6 := c2
    rw [l1, nI_eq (by omega) (by decide)] at c2
    have e : oSees (ev, L, H, img, kp, S, n, t) (nI i) (nI k) (nI j) = (-3, (ev, L, H, img, kp, S, n, t)) := by
      simp only [oSees]
      rw [if_pos yes, if_neg (by omega)]
    rw [e]
    exact ⟨rfl, I, rfl, h, frK.rf⟩
