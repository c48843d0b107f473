/-! The class: sees -/
def oSees (s : SS) (x r y : Int32) : Int32 × SS := match s with
  | (ev, L, H, img, kp, S, n, t) => if two x y ev && isIn r 13 then (if S.length < 6 then (nI (S.length + 1), (ev, L, H, img, kp, S ++ [(x.toNatClampNeg, r.toNatClampNeg, y.toNatClampNeg)], n, t)) else (-3, s)) else (-1, s)
theorem two_of {x y : Int32} {ev : Nat} (h : two x y ev = true) (he : ev < 2 ^ 31) : ∃ i j, i < ev ∧ j < ev ∧ i ≠ j ∧ x = nI i ∧ y = nI j := by
  unfold two at h
  simp only [Bool.and_eq_true] at h
  obtain ⟨i, i1, rfl⟩ := isIn_of h.1.1 he
  obtain ⟨j, j1, rfl⟩ := isIn_of h.1.2 he
  refine ⟨i, j, i1, j1, fun e => ?_, rfl, rfl⟩
  have := h.2
  rw [e] at this
  simp at this
theorem WFs.snoc {ev : Nat} {S : List Ob} (h : WFs ev S) {x r y : Nat} (hx : x < ev) (hy : y < ev) (hxy : x ≠ y) (hr : r < 13) : WFs ev (S ++ [(x, r, y)]) := fun j hj => by
  rw [List.length_append] at hj
  have hj : j < S.length + 1 := hj
  by_cases e : j = S.length
  · subst e
    rw [nthD_len]
    exact ⟨hx, hy, hxy, hr⟩
  · rw [nthD_app (by omega)]
    exact h j (by omega)
set_option maxRecDepth 10000 in
theorem c_sees (I : SI) (J : SJ) (s : SS) (x r y : Int32) (h : CR I J s) (d : Nat) (hd : 1 < d) : Tri d YX8_sees 117 [vr 25 0, vi x, vi r, vi y] (S0 I J) (fun v σ => v = some (vi (oSees s x r y).1) ∧ ∃ I1, σ = S0 I1 J ∧ CR I1 J (oSees s x r y).2 ∧ frC I I1) := by
  refine Tri.of (M := MX8_sees) k_X8_sees ⟨Nat.le_refl _, Nat.le_refl _⟩ (Nat.le_of_ble_eq_true rfl) ?_
  obtain ⟨ev, L, H, img, kp, S, n, t⟩ := s
  have hB := h.1.2.1
  have h5 := hB.2.2.2.2.1
  have hs : SNP I S := h.2.2.2.2.1
  have hs6 := hs.2.1
  have bad : (two x y ev && isIn r 13) = false → some (vi (-1 : Int32)) = some (vi (oSees (ev, L, H, img, kp, S, n, t) x r y).1) ∧ ∃ I1, S0 I J = S0 I1 J ∧ CR I1 J (oSees (ev, L, H, img, kp, S, n, t) x r y).2 ∧ frC I I1 := fun q => by
    have e : oSees (ev, L, H, img, kp, S, n, t) x r y = (-1, (ev, L, H, img, kp, S, n, t)) := by
      simp only [oSees]
      rw [if_neg (by rw [q]; decide)]
    rw [e]
    exact ⟨rfl, I, rfl, h, fun _ _ _ => rfl⟩
  refine Sat.of k_X8_sees [] 60 ?_
  refine ⟨1, 117, hd, Nat.le_refl _, (c_areTwo I J 1 ev L x y hB 1 (by decide)).mono ?_⟩
  rintro v σ ⟨rfl, rfl⟩
  refine ⟨fun c => ⟨rfl, trivial, bad (by rw [bi_f c, Bool.false_and])⟩, fun c => ⟨0, 117, by omega, Nat.le_refl _, (isRel_t I J r 0).mono ?_⟩⟩
  rintro v σ ⟨rfl, rfl⟩
  refine ⟨fun c1 => ?_, fun c1 => ⟨rfl, trivial, bad (by rw [bi_f c1, Bool.and_false])⟩⟩
  have ht := bi_t c
  have hr := bi_t c1
  obtain ⟨i, j, i1, j1, hij, rfl, rfl⟩ := two_of ht (by omega)
  obtain ⟨k, k1, rfl⟩ := isIn_of hr (by decide)
  refine ⟨fun c2 => ?_, fun c2 => ⟨rfl, trivial, ?_⟩⟩
  · have c2 : I 21 0 3 < nI 6 := c2
    rw [hs.1, nI_ltI (by omega) (by decide)] at c2
    have e : oSees (ev, L, H, img, kp, S, n, t) (nI i) (nI k) (nI j) = (nI (S.length + 1), (ev, L, H, img, kp, S ++ [(i, k, j)], n, t)) := by
      simp only [oSees]
      rw [if_pos (by rw [ht, hr]; rfl), if_pos c2, nI_clamp (by omega), nI_clamp (by omega), nI_clamp (by omega)]
    rw [e]
    refine ⟨0, 117, by omega, Nat.le_refl _, (c_seenAppend I J S i k j hs c2 0).mono ?_⟩
    rintro v σ ⟨rfl, I1, rfl, q1, q2⟩
    refine ⟨rfl, trivial, ?_, I1, rfl, h.S q2 q1 (h.2.2.2.2.2.1.snoc i1 j1 hij k1), fun a b qq => q2 a b (by omega)⟩
    show some (vi (I1 21 0 3)) = _
    rw [q1.1, List.length_append]
    rfl
  · have c2 : ¬ I 21 0 3 < nI 6 := c2
    rw [hs.1, nI_ltI (by omega) (by decide)] at c2
    have e : oSees (ev, L, H, img, kp, S, n, t) (nI i) (nI k) (nI j) = (-3, (ev, L, H, img, kp, S, n, t)) := by
      simp only [oSees]
      rw [if_pos (by rw [ht, hr]; rfl), if_neg c2]
    rw [e]
    exact ⟨rfl, I, rfl, h, fun _ _ _ => rfl⟩
