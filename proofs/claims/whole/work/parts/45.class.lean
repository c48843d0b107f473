/-! The class's state, and its first answers -/
abbrev SS : Type := Nat × List Ob × List (List Ob) × (Nat → List Ob) × (Nat → Bool) × List Ob × Nat × (Nat → Nat)
/-- letters, images, what was said before -/
def LTR (I : SI) (n : Nat) (t : Nat → Nat) : Prop := I 25 0 1 = nI n ∧ n ≤ 160 ∧ ∀ i, i < n → I 26 0 i = nI (t i) ∧ t i ≤ 255
def IMG (I : SI) (ev : Nat) (img : Nat → List Ob) (kp : Nat → Bool) : Prop := ∀ b, b < 2 → I 28 0 b = bi (kp b) ∧ (kp b = true → BK I (10 + b) ev (img b) ∧ WFo ev (img b))
def WFH (ev : Nat) (H : List (List Ob)) : Prop := ∀ j, j < H.length → WFo ev (nthD H j [])
def CR (I : SI) (J : SJ) (s : SS) : Prop := match s with
  | (ev, L, H, img, kp, S, n, t) => FI I J ev L ∧ FR I ev L ∧ PST I ev H ∧ WFH ev H ∧ SNP I S ∧ WFs ev S ∧ LTR I n t ∧ IMG I ev img kp
/-- what the class's cells are -/
def frC (I I1 : SI) : Prop := ∀ t k, 29 ≤ t → I1 t k = I t k
def oType (s : SS) (c : Int32) : Int32 × SS := match s with
  | (ev, L, H, img, kp, S, n, t) => if isIn c 256 then (if n < 160 then (nI (n + 1), (ev, L, H, img, kp, S, n + 1, put1 t n c.toNatClampNeg)) else (-3, s)) else (-1, s)
def oClear (s : SS) : Int32 × SS := match s with
  | (ev, L, H, img, kp, S, n, t) => (nI n, (ev, L, H, img, kp, S, 0, t))
def oForget (s : SS) : Int32 × SS := match s with
  | (ev, L, H, img, kp, S, n, t) => (nI S.length, (ev, L, H, img, kp, [], n, t))
/-- a change of the letters alone -/
theorem CR.let {I I1 : SI} {J : SJ} {ev : Nat} {L : List Ob} {H : List (List Ob)} {img : Nat → List Ob} {kp : Nat → Bool} {S : List Ob} {n n1 : Nat} {t t1 : Nat → Nat} (h : CR I J (ev, L, H, img, kp, S, n, t)) (hf : ∀ a b, ¬ (a = 25 ∨ a = 26) → I1 a b = I a b) (hl : LTR I1 n1 t1) : CR I1 J (ev, L, H, img, kp, S, n1, t1) := by
  obtain ⟨⟨a1, a2, a3, kc, a4, a6⟩, ⟨kr, r1, r2⟩, h3, h4, h5, h6, h7, h8⟩ := h
  refine ⟨⟨?_, ?_, a3, kc, by rw [hf 7 0 (by omega)]; exact a4, fun q => (a6 q).k (hf 16 1 (by omega)) (hf 17 1 (by omega)) (hf 8 0 (by omega)) (hf 15 0 (by omega)) rfl⟩, ⟨kr, by rw [hf 7 0 (by omega)]; exact r1, fun q x y hx hy => by rw [hf 17 2 (by omega)]; exact r2 q x y hx hy⟩, ?_, h4, ?_, h6, hl, fun b hb => ?_⟩
  · unfold ALG at a1 ⊢
    rw [hf 1 0 (by omega), hf 2 0 (by omega)]
    exact a1
  · unfold BK at a2 ⊢
    rw [hf 3 1 (by omega), hf 4 1 (by omega), hf 5 1 (by omega), hf 6 1 (by omega)]
    exact a2
  · obtain ⟨π, p1, p2, p3, p4⟩ := h3
    refine ⟨π, ?_, by rw [hf 18 0 (by omega)]; exact p2, p3, fun j hj => ?_⟩
    · unfold PRM at p1 ⊢
      rw [hf 19 0 (by omega)]
      exact p1
    · have := p4 j hj
      unfold BK at this ⊢
      rw [hf 3 _ (by omega), hf 4 _ (by omega), hf 5 _ (by omega), hf 6 _ (by omega)]
      exact this
  · unfold SNP at h5 ⊢
    rw [hf 21 0 (by omega), hf 22 0 (by omega), hf 23 0 (by omega), hf 24 0 (by omega)]
    exact h5
  · obtain ⟨q1, q2⟩ := h8 b hb
    refine ⟨by rw [hf 28 0 (by omega)]; exact q1, fun q => ⟨?_, (q2 q).2⟩⟩
    have := (q2 q).1
    unfold BK at this ⊢
    rw [hf 3 _ (by omega), hf 4 _ (by omega), hf 5 _ (by omega), hf 6 _ (by omega)]
    exact this
set_option maxRecDepth 10000 in
theorem c_clear (I : SI) (J : SJ) (s : SS) (h : CR I J s) (d : Nat) : Tri d YX8_clear 117 [vr 25 0] (S0 I J) (fun r σ => r = some (vi (oClear s).1) ∧ ∃ I1, σ = S0 I1 J ∧ CR I1 J (oClear s).2 ∧ frC I I1) := by
  refine Tri.of (M := MX8_clear) k_X8_clear ⟨Nat.le_refl _, Nat.le_refl _⟩ (Nat.le_of_ble_eq_true rfl) ?_
  obtain ⟨ev, L, H, img, kp, S, n, t⟩ := s
  have hl : LTR I n t := h.2.2.2.2.2.2.1
  refine Sat.of k_X8_clear [] 60 ?_
  refine ⟨rfl, trivial, ?_, uI I 25 0 1 0, rfl, h.let (fun a b q => uI_tt (by omega)) ⟨uI_at, by omega, fun i hi => absurd hi (by omega)⟩, fun a b q => uI_tt (by omega)⟩
  show some (vi (I 25 0 1)) = _
  rw [hl.1]
  rfl
set_option maxRecDepth 10000 in
theorem c_type (I : SI) (J : SJ) (s : SS) (c : Int32) (h : CR I J s) (d : Nat) : Tri d YX8_type 117 [vr 25 0, vi c] (S0 I J) (fun r σ => r = some (vi (oType s c).1) ∧ ∃ I1, σ = S0 I1 J ∧ CR I1 J (oType s c).2 ∧ frC I I1) := by
  refine Tri.of (M := MX8_type) k_X8_type ⟨Nat.le_refl _, Nat.le_refl _⟩ (Nat.le_of_ble_eq_true rfl) ?_
  obtain ⟨ev, L, H, img, kp, S, n, t⟩ := s
  obtain ⟨l1, l2, l3⟩ : LTR I n t := h.2.2.2.2.2.2.1
  have key : ¬ c < 0 → (c ≤ 255 ↔ ¬ nI 256 ≤ c) := fun hc => by
    obtain ⟨j, j1, rfl⟩ := nI_of hc
    rw [show (255 : Int32) = nI 255 from rfl, nI_leI j1 (by decide), nI_leI (by decide) j1]
    omega
  have bad : isIn c 256 = false → some (vi (-1 : Int32)) = some (vi (oType (ev, L, H, img, kp, S, n, t) c).1) ∧ ∃ I1, S0 I J = S0 I1 J ∧ CR I1 J (oType (ev, L, H, img, kp, S, n, t) c).2 ∧ frC I I1 := fun q => by
    have e : oType (ev, L, H, img, kp, S, n, t) c = (-1, (ev, L, H, img, kp, S, n, t)) := by
      simp only [oType]
      rw [if_neg (by rw [q]; decide)]
    rw [e]
    exact ⟨rfl, I, rfl, h, fun _ _ _ => rfl⟩
  refine Sat.of k_X8_type [] 60 ?_
  refine ⟨fun q => ⟨rfl, trivial, bad (isIn_f1 q)⟩, fun q => ⟨fun q1 => ?_, fun q1 => ⟨rfl, trivial, bad (isIn_f2 (n := 256) ?_)⟩⟩⟩
  · have hin : isIn c 256 = true := isIn_t (n := 256) q ((key q).mp q1)
    obtain ⟨j, j1, j2⟩ := isIn_of hin (by decide)
    refine ⟨fun q2 => ?_, fun q2 => ?_⟩
    · have q2 : I 25 0 1 < nI 160 := q2
      rw [l1, nI_ltI (by omega) (by decide)] at q2
      have en : (I 25 0 1).toNatClampNeg = n := by rw [l1, nI_clamp (by omega)]
      have e : oType (ev, L, H, img, kp, S, n, t) c = (nI (n + 1), (ev, L, H, img, kp, S, n + 1, put1 t n c.toNatClampNeg)) := by
        simp only [oType]
        rw [if_pos hin, if_pos q2]
      have ecl : c.toNatClampNeg = j := by rw [j2, nI_clamp (by omega)]
      rw [e]
      refine ⟨?_, rfl, trivial, ?_, uI (uI I 26 0 n c) 25 0 1 (nI (n + 1)), ?_, h.let (fun a b qq => by rw [uI_tt (by omega), uI_tt (by omega)]) ⟨uI_at, by omega, fun i hi => ?_⟩, fun a b qq => by rw [uI_tt (by omega), uI_tt (by omega)]⟩
      · show vp_in (I 25 0 1) 160
        rw [l1]
        exact vp_in_nI q2 (by decide)
      · show some (vi (uI (uI I 26 0 (I 25 0 1).toNatClampNeg c) 25 0 1 (uI I 26 0 (I 25 0 1).toNatClampNeg c 25 0 1 + 1) 25 0 1)) = _
        rw [uI_at, uI_t (by decide), l1, nI_1]
      · show (uI (uI I 26 0 (I 25 0 1).toNatClampNeg c) 25 0 1 (uI I 26 0 (I 25 0 1).toNatClampNeg c 25 0 1 + 1), J, 117, aT) = _
        rw [uI_t (by decide), en, l1, nI_1]
      · rw [uI_t (by decide)]
        by_cases ei : i = n
        · subst ei
          rw [uI_at, put1_at, ecl]
          exact ⟨j2, by omega⟩
        · rw [uI_j ei, put1_ne ei]
          exact l3 i (by omega)
    · have q2 : ¬ I 25 0 1 < nI 160 := q2
      rw [l1, nI_ltI (by omega) (by decide)] at q2
      have e : oType (ev, L, H, img, kp, S, n, t) c = (-3, (ev, L, H, img, kp, S, n, t)) := by
        simp only [oType]
        rw [if_pos hin, if_neg q2]
      rw [e]
      exact ⟨rfl, trivial, rfl, I, rfl, h, fun _ _ _ => rfl⟩
  · exact Classical.not_not.mp (fun q2 => q1 ((key q).mpr q2))
