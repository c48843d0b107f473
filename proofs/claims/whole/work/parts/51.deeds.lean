/-! The class: observations asked for, added, taken, turned, undone -/
theorem CR.chg {I I1 : SI} {J : SJ} {ev : Nat} {L L1 : List Ob} {H H1 : List (List Ob)} {img : Nat → List Ob} {kp : Nat → Bool} {S : List Ob} {n : Nat} {t : Nat → Nat} (h : CR I J (ev, L, H, img, kp, S, n, t)) (hf : ∀ a b, ¬ (a = 7 ∨ a = 18 ∨ a = 19 ∨ (3 ≤ a ∧ a ≤ 6 ∧ 1 ≤ b ∧ b ≤ 9)) → I1 a b = I a b) (hb : BK I1 1 ev L1) (hw : WFo ev L1) (hp : PST I1 ev H1) (hwh : WFH ev H1) (h8 : I1 7 0 8 = 0) (h9 : I1 7 0 9 = 0) : CR I1 J (ev, L1, H1, img, kp, S, n, t) := by
  obtain ⟨⟨a1, _, _, _, _, _⟩, _, _, _, h5, h6, h7, hi⟩ := h
  refine ⟨⟨?_, hb, hw, false, h8, fun q => absurd q (by decide)⟩, ⟨false, h9, fun q => absurd q (by decide)⟩, hp, hwh, ?_, h6, ?_, fun b hb2 => ?_⟩
  · unfold ALG at a1 ⊢
    rw [hf 1 0 (by omega), hf 2 0 (by omega)]
    exact a1
  · unfold SNP at h5 ⊢
    rw [hf 21 0 (by omega), hf 22 0 (by omega), hf 23 0 (by omega), hf 24 0 (by omega)]
    exact h5
  · unfold LTR at h7 ⊢
    rw [hf 25 0 (by omega), hf 26 0 (by omega)]
    exact h7
  · obtain ⟨q1, q2⟩ := hi b hb2
    refine ⟨by rw [hf 28 0 (by omega)]; exact q1, fun q => ⟨?_, (q2 q).2⟩⟩
    have := (q2 q).1
    unfold BK at this ⊢
    rw [hf 3 _ (by omega), hf 4 _ (by omega), hf 5 _ (by omega), hf 6 _ (by omega)]
    exact this
theorem PST.k {I I1 : SI} {ev : Nat} {H : List (List Ob)} (h : PST I ev H) (hf : ∀ a b, (a = 18 ∨ a = 19 ∨ (3 ≤ a ∧ a ≤ 6 ∧ 2 ≤ b ∧ b ≤ 9)) → I1 a b = I a b) : PST I1 ev H := by
  obtain ⟨π, p1, p2, p3, p4⟩ := h
  refine ⟨π, ?_, by rw [hf 18 0 (by omega)]; exact p2, p3, fun j hj => ?_⟩
  · unfold PRM at p1 ⊢
    rw [hf 19 0 (by omega)]
    exact p1
  · have h8 := p1.1 j (by omega)
    have := p4 j hj
    unfold BK at this ⊢
    rw [hf 3 _ (by omega), hf 4 _ (by omega), hf 5 _ (by omega), hf 6 _ (by omega)]
    exact this
theorem WFo.snoc {ev : Nat} {L : List Ob} (h : WFo ev L) {x w y : Nat} (hx : x < ev) (hy : y < ev) (hxy : x ≠ y) (h1 : 1 ≤ w) (h2 : w < 8192) : WFo ev (L ++ [(x, w, y)]) := fun j hj => by
  rw [List.length_append] at hj
  have hj : j < L.length + 1 := hj
  by_cases e : j = L.length
  · subst e
    rw [nthD_len]
    exact ⟨hx, hy, hxy, h1, h2⟩
  · rw [nthD_app (by omega)]
    exact h j (by omega)
theorem WFo.erase {ev k : Nat} {L : List Ob} (h : WFo ev L) (hk : k < L.length) : WFo ev (L.eraseIdx k) := fun j hj => by
  rw [List.length_eraseIdx_of_lt hk] at hj
  rw [nthD_erase]
  split
  · exact h j (by omega)
  · exact h (j + 1) (by omega)
theorem nthD_set {α : Type} : ∀ (l : List α) (k j : Nat) (a d : α), k < l.length → nthD (l.set k a) j d = if j = k then a else nthD l j d
  | [], k, j, a, d, h => absurd h (by simp)
  | b :: l, 0, 0, a, d, _ => by simp [nthD]
  | b :: l, 0, j + 1, a, d, _ => by simp [nthD]
  | b :: l, k + 1, 0, a, d, _ => by simp [nthD]
  | b :: l, k + 1, j + 1, a, d, h => by
    have := nthD_set l k j a d (by simpa using h)
    simp only [List.set_cons_succ, nthD, this]
    by_cases e : j = k <;> simp [e]
def setO (L : List Ob) (k w : Nat) : List Ob := L.set k ((nthD L k (0, 0, 0)).1, w, (nthD L k (0, 0, 0)).2.2)
theorem WFo.set {ev k w : Nat} {L : List Ob} (h : WFo ev L) (hk : k < L.length) (h1 : 1 ≤ w) (h2 : w < 8192) : WFo ev (setO L k w) := fun j hj => by
  unfold setO at hj ⊢
  rw [List.length_set] at hj
  rw [nthD_set _ _ _ _ _ hk]
  split
  · obtain ⟨a1, a2, a3, _, _⟩ := h k hk
    exact ⟨a1, a2, a3, h1, h2⟩
  · exact h j hj
def rem8 (H : List (List Ob)) (L : List Ob) : List (List Ob) := (if H.length = 8 then H.tail else H) ++ [L]
theorem nthD_tail {α : Type} {l : List α} {j : Nat} {d : α} : nthD l.tail j d = nthD l (j + 1) d := by
  cases l <;> rfl
theorem WFH.rem {ev : Nat} {H : List (List Ob)} {L : List Ob} (h : WFH ev H) (hL : WFo ev L) : WFH ev (rem8 H L) := fun j hj => by
  unfold rem8 at hj ⊢
  rw [List.length_append] at hj
  have hj : j < (if H.length = 8 then H.tail else H).length + 1 := hj
  by_cases e : j = (if H.length = 8 then H.tail else H).length
  · rw [e, nthD_len]
    exact hL
  · rw [nthD_app (by omega)]
    split
    · rename_i q
      rw [if_pos q, List.length_tail] at hj e
      rw [nthD_tail]
      exact h _ (by omega)
    · rename_i q
      rw [if_neg q] at hj e
      exact h j (by omega)
theorem snoc_of {α : Type} : ∀ (l : List α), 0 < l.length → ∃ r a, l = r ++ [a]
  | [], h => absurd h (by simp)
  | [a], _ => ⟨[], a, rfl⟩
  | a :: b :: l, _ => by
    obtain ⟨r, c, e⟩ := snoc_of (b :: l) (by simp)
    exact ⟨a :: r, c, by rw [e]; rfl⟩
def oObserved (s : SS) (k w : Int32) : Int32 := if isIn k s.2.1.length then (if w = 0 then nI (nthD s.2.1 k.toNatClampNeg (0, 0, 0)).1 else if w = 1 then nI (nthD s.2.1 k.toNatClampNeg (0, 0, 0)).2.2 else if w = 2 then nI (nthD s.2.1 k.toNatClampNeg (0, 0, 0)).2.1 else -1) else -1
def oAdds (s : SS) (x w y : Int32) : Int32 × SS := match s with
  | (ev, L, H, img, kp, S, n, t) => if two x y ev && isTld w then (if L.length < 8 then (nI (L.length + 1), (ev, L ++ [(x.toNatClampNeg, w.toNatClampNeg, y.toNatClampNeg)], rem8 H L, img, kp, S, n, t)) else (-3, s)) else (-1, s)
def oTakes (s : SS) (k : Int32) : Int32 × SS := match s with
  | (ev, L, H, img, kp, S, n, t) => if isIn k L.length then (nI (L.length - 1), (ev, L.eraseIdx k.toNatClampNeg, rem8 H L, img, kp, S, n, t)) else (-1, s)
def oTurns (s : SS) (k w : Int32) : Int32 × SS := match s with
  | (ev, L, H, img, kp, S, n, t) => if isIn k L.length && isTld w then (if nI (nthD L k.toNatClampNeg (0, 0, 0)).2.1 = w then (-2, s) else (nI (nthD L k.toNatClampNeg (0, 0, 0)).2.1, (ev, setO L k.toNatClampNeg w.toNatClampNeg, rem8 H L, img, kp, S, n, t))) else (-1, s)
def oUndo (s : SS) : Int32 × SS := match s with
  | (ev, _, H, img, kp, S, n, t) => if H.length = 0 then (-2, s) else (nI (H.length - 1), (ev, nthD H (H.length - 1) [], H.dropLast, img, kp, S, n, t))
theorem isTld_of {w : Int32} (h : isTld w = true) : ∃ j, 1 ≤ j ∧ j < 8192 ∧ w = nI j := by
  unfold isTld at h
  rw [Bool.and_eq_true] at h
  obtain ⟨j, j1, rfl⟩ := isIn_of h.1 (by decide)
  refine ⟨j, ?_, j1, rfl⟩
  rcases Nat.eq_zero_or_pos j with e | e
  · rw [e] at h
    exact absurd h.2 (by decide)
  · exact e
set_option maxRecDepth 10000 in
theorem c_observed (I : SI) (J : SJ) (s : SS) (k w : Int32) (h : CR I J s) (d : Nat) (hd : 0 < d) : Tri d YX8_observed 117 [vr 25 0, vi k, vi w] (S0 I J) (fun r σ => r = some (vi (oObserved s k w)) ∧ σ = S0 I J) := by
  refine Tri.of (M := MX8_observed) k_X8_observed ⟨Nat.le_refl _, Nat.le_refl _⟩ (Nat.le_of_ble_eq_true rfl) ?_
  obtain ⟨ev, L, H, img, kp, S, n, t⟩ := s
  have hB := h.1.2.1
  have h8 := hB.2.2.1
  have hT := hB.2.2.2.2.2
  refine Sat.of k_X8_observed [] 60 ?_
  refine ⟨0, 117, hd, Nat.le_refl _, (c_isObservation I J 1 ev L k hB 0).mono ?_⟩
  rintro r σ ⟨rfl, rfl⟩
  refine ⟨fun c => ?_, fun c => ⟨rfl, trivial, ?_, rfl⟩⟩
  · have hk := bi_t c
    obtain ⟨j, j1, rfl⟩ := isIn_of hk (by omega)
    have ej : (nI j).toNatClampNeg = j := nI_clamp (by omega)
    have hv : vp_in (nI j) 8 := vp_in_nI (by omega) (by decide)
    have eo : oObserved (ev, L, H, img, kp, S, n, t) (nI j) w = (if w = 0 then nI (nthD L j (0, 0, 0)).1 else if w = 1 then nI (nthD L j (0, 0, 0)).2.2 else if w = 2 then nI (nthD L j (0, 0, 0)).2.1 else -1) := by
      unfold oObserved
      rw [if_pos hk, ej]
    rw [eo]
    obtain ⟨t1, t2, t3⟩ := hT j j1
    refine ⟨⟨fun c2 => ⟨hv, rfl, trivial, ?_, rfl⟩, fun c2 => ⟨hv, rfl, trivial, ?_, rfl⟩, fun c2 => ⟨hv, rfl, trivial, ?_, rfl⟩, trivial⟩, fun c2 c3 c4 => ⟨rfl, trivial, ?_, rfl⟩⟩
    · have c2 : w = 0 := c2
      rw [if_pos c2, ej, t1]
    · have c2 : w = 1 := c2
      rw [if_neg (show ¬ w = 0 by rw [c2]; decide), if_pos c2, ej, t3]
    · have c2 : w = 2 := c2
      rw [if_neg (show ¬ w = 0 by rw [c2]; decide), if_neg (show ¬ w = 1 by rw [c2]; decide), if_pos c2, ej, t2]
    · have c2 : ¬ w = 0 := c2
      have c3 : ¬ w = 1 := c3
      have c4 : ¬ w = 2 := c4
      rw [if_neg c2, if_neg c3, if_neg c4]
  · unfold oObserved
    rw [if_neg (by rw [bi_f c]; decide)]
set_option maxRecDepth 10000 in
theorem c_adds (I : SI) (J : SJ) (s : SS) (x w y : Int32) (h : CR I J s) (d : Nat) (hd : 1 < d) : Tri d YX8_adds 117 [vr 25 0, vi x, vi w, vi y] (S0 I J) (fun r σ => r = some (vi (oAdds s x w y).1) ∧ ∃ I1, σ = S0 I1 J ∧ CR I1 J (oAdds s x w y).2 ∧ frC I I1) := by
  refine Tri.of (M := MX8_adds) k_X8_adds ⟨Nat.le_refl _, Nat.le_refl _⟩ (Nat.le_of_ble_eq_true rfl) ?_
  obtain ⟨ev, L, H, img, kp, S, n, t⟩ := s
  have hB := h.1.2.1
  have h5 := hB.2.2.2.2.1
  have bad : (two x y ev && isTld w) = false → some (vi (-1 : Int32)) = some (vi (oAdds (ev, L, H, img, kp, S, n, t) x w y).1) ∧ ∃ I1, S0 I J = S0 I1 J ∧ CR I1 J (oAdds (ev, L, H, img, kp, S, n, t) x w y).2 ∧ frC I I1 := fun q => by
    have e : oAdds (ev, L, H, img, kp, S, n, t) x w y = (-1, (ev, L, H, img, kp, S, n, t)) := by
      simp only [oAdds]
      rw [if_neg (by rw [q]; decide)]
    rw [e]
    exact ⟨rfl, I, rfl, h, fun _ _ _ => rfl⟩
  refine Sat.of k_X8_adds [] 60 ?_
  refine ⟨1, 117, hd, Nat.le_refl _, (c_areTwo I J 1 ev L x y hB 1 (by decide)).mono ?_⟩
  rintro v σ ⟨rfl, rfl⟩
  refine ⟨fun c => ⟨rfl, trivial, bad (by rw [bi_f c, Bool.false_and])⟩, fun c => ⟨0, 117, by omega, Nat.le_refl _, (isTld_t I J w 0).mono ?_⟩⟩
  rintro v σ ⟨rfl, rfl⟩
  refine ⟨fun c1 => ?_, fun c1 => ⟨rfl, trivial, bad (by rw [bi_f c1, Bool.and_false])⟩⟩
  have ht := bi_t c
  have hr := bi_t c1
  obtain ⟨i, j, i1, j1, hij, rfl, rfl⟩ := two_of ht (by omega)
  obtain ⟨k, k0, k1, rfl⟩ := isTld_of hr
  refine ⟨fun c2 => ?_, fun c2 => ⟨rfl, trivial, ?_⟩⟩
  · have c2 : I 3 1 3 < nI 8 := c2
    rw [hB.2.1, nI_ltI (by have := hB.2.2.1; omega) (by decide)] at c2
    have e : oAdds (ev, L, H, img, kp, S, n, t) (nI i) (nI k) (nI j) = (nI (L.length + 1), (ev, L ++ [(i, k, j)], rem8 H L, img, kp, S, n, t)) := by
      simp only [oAdds]
      rw [if_pos (by rw [ht, hr]; rfl), if_pos c2, nI_clamp (by omega), nI_clamp (by omega), nI_clamp (by omega)]
    rw [e]
    refine ⟨1, 117, by omega, Nat.le_refl _, (c_remember I J ev L H h.2.2.1 hB 1 (by decide)).mono ?_⟩
    rintro v σ ⟨rfl, I1, rfl, q1, q2⟩
    refine ⟨0, 117, by omega, Nat.le_refl _, (c_append I1 J 1 ev L i k j (hB.same (fun t h1 h2 => q2 t 1 (by omega))) c2 0).mono ?_⟩
    rintro v σ ⟨rfl, I2, rfl, q3, q4⟩
    refine ⟨0, 117, by omega, Nat.le_refl _, (c_forgetAll I2 J 0).mono ?_⟩
    rintro v σ ⟨rfl, rfl⟩
    refine ⟨rfl, trivial, ?_, _, rfl, h.chg (fun a b q => ?_) (q3.same (fun t h1 h2 => by rw [uI_tt (by omega), uI_tt (by omega)])) (h.1.2.2.1.snoc i1 j1 hij k0 k1) (q1.k (fun a b q => ?_)) (h.2.2.2.1.rem h.1.2.2.1) ?_ ?_, fun a b q => ?_⟩
    · show some (vi (uI (uI I2 7 0 8 0) 7 0 9 0 3 1 3)) = _
      rw [uI_t (by decide), uI_t (by decide), q3.2.1, List.length_append]
      rfl
    · rw [uI_tt (by omega), uI_tt (by omega), q4 a b (by omega), q2 a b (by omega)]
    · rw [uI_tt (by omega), uI_tt (by omega), q4 a b (by omega)]
    · rw [uI_j (by decide), uI_at]
    · rw [uI_at]
    · rw [uI_tt (by omega), uI_tt (by omega), q4 a b (by omega), q2 a b (by omega)]
  · have c2 : ¬ I 3 1 3 < nI 8 := c2
    rw [hB.2.1, nI_ltI (by have := hB.2.2.1; omega) (by decide)] at c2
    have e : oAdds (ev, L, H, img, kp, S, n, t) (nI i) (nI k) (nI j) = (-3, (ev, L, H, img, kp, S, n, t)) := by
      simp only [oAdds]
      rw [if_pos (by rw [ht, hr]; rfl), if_neg c2]
    rw [e]
    exact ⟨rfl, I, rfl, h, fun _ _ _ => rfl⟩
set_option maxRecDepth 10000 in
theorem c_takes (I : SI) (J : SJ) (s : SS) (k : Int32) (h : CR I J s) (d : Nat) (hd : 1 < d) : Tri d YX8_takes 117 [vr 25 0, vi k] (S0 I J) (fun r σ => r = some (vi (oTakes s k).1) ∧ ∃ I1, σ = S0 I1 J ∧ CR I1 J (oTakes s k).2 ∧ frC I I1) := by
  refine Tri.of (M := MX8_takes) k_X8_takes ⟨Nat.le_refl _, Nat.le_refl _⟩ (Nat.le_of_ble_eq_true rfl) ?_
  obtain ⟨ev, L, H, img, kp, S, n, t⟩ := s
  have hB := h.1.2.1
  have h8 := hB.2.2.1
  refine Sat.of k_X8_takes [] 60 ?_
  refine ⟨0, 117, by omega, Nat.le_refl _, (c_isObservation I J 1 ev L k hB 0).mono ?_⟩
  rintro r σ ⟨rfl, rfl⟩
  refine ⟨fun c => ?_, fun c => ⟨rfl, trivial, ?_⟩⟩
  · have hk := bi_t c
    obtain ⟨j, j1, rfl⟩ := isIn_of hk (by omega)
    have ej : (nI j).toNatClampNeg = j := nI_clamp (by omega)
    have e : oTakes (ev, L, H, img, kp, S, n, t) (nI j) = (nI (L.length - 1), (ev, L.eraseIdx j, rem8 H L, img, kp, S, n, t)) := by
      simp only [oTakes]
      rw [if_pos hk, ej]
    rw [e]
    refine ⟨1, 117, by omega, Nat.le_refl _, (c_remember I J ev L H h.2.2.1 hB 1 (by decide)).mono ?_⟩
    rintro v σ ⟨rfl, I1, rfl, q1, q2⟩
    refine ⟨1, 117, by omega, Nat.le_refl _, (c_remove I1 J 1 ev j L (hB.same (fun t h1 h2 => q2 t 1 (by omega))) j1 1 (by decide)).mono ?_⟩
    rintro v σ ⟨rfl, I2, rfl, q3, q4⟩
    refine ⟨0, 117, by omega, Nat.le_refl _, (c_forgetAll I2 J 0).mono ?_⟩
    rintro v σ ⟨rfl, rfl⟩
    refine ⟨rfl, trivial, ?_, _, rfl, h.chg (fun a b q => ?_) (q3.same (fun t h1 h2 => by rw [uI_tt (by omega), uI_tt (by omega)])) (h.1.2.2.1.erase j1) (q1.k (fun a b q => ?_)) (h.2.2.2.1.rem h.1.2.2.1) ?_ ?_, fun a b q => ?_⟩
    · show some (vi (uI (uI I2 7 0 8 0) 7 0 9 0 3 1 3)) = _
      rw [uI_t (by decide), uI_t (by decide), q3.2.1, List.length_eraseIdx_of_lt j1]
    · rw [uI_tt (by omega), uI_tt (by omega), q4 a b (by omega), q2 a b (by omega)]
    · rw [uI_tt (by omega), uI_tt (by omega), q4 a b (by omega)]
    · rw [uI_j (by decide), uI_at]
    · rw [uI_at]
    · rw [uI_tt (by omega), uI_tt (by omega), q4 a b (by omega), q2 a b (by omega)]
  · have e : oTakes (ev, L, H, img, kp, S, n, t) k = (-1, (ev, L, H, img, kp, S, n, t)) := by
      simp only [oTakes]
      rw [if_neg (by rw [bi_f c]; decide)]
    rw [e]
    exact ⟨rfl, I, rfl, h, fun _ _ _ => rfl⟩
set_option maxRecDepth 10000 in
theorem c_turns (I : SI) (J : SJ) (s : SS) (k w : Int32) (h : CR I J s) (d : Nat) (hd : 1 < d) : Tri d YX8_turns 117 [vr 25 0, vi k, vi w] (S0 I J) (fun r σ => r = some (vi (oTurns s k w).1) ∧ ∃ I1, σ = S0 I1 J ∧ CR I1 J (oTurns s k w).2 ∧ frC I I1) := by
  refine Tri.of (M := MX8_turns) k_X8_turns ⟨Nat.le_refl _, Nat.le_refl _⟩ (Nat.le_of_ble_eq_true rfl) ?_
  obtain ⟨ev, L, H, img, kp, S, n, t⟩ := s
  have hB := h.1.2.1
  have h8 := hB.2.2.1
  have bad : (isIn k L.length && isTld w) = false → some (vi (-1 : Int32)) = some (vi (oTurns (ev, L, H, img, kp, S, n, t) k w).1) ∧ ∃ I1, S0 I J = S0 I1 J ∧ CR I1 J (oTurns (ev, L, H, img, kp, S, n, t) k w).2 ∧ frC I I1 := fun q => by
    have e : oTurns (ev, L, H, img, kp, S, n, t) k w = (-1, (ev, L, H, img, kp, S, n, t)) := by
      simp only [oTurns]
      rw [if_neg (by rw [q]; decide)]
    rw [e]
    exact ⟨rfl, I, rfl, h, fun _ _ _ => rfl⟩
  refine Sat.of k_X8_turns [] 60 ?_
  refine ⟨0, 117, by omega, Nat.le_refl _, (c_isObservation I J 1 ev L k hB 0).mono ?_⟩
  rintro r σ ⟨rfl, rfl⟩
  refine ⟨fun c => ⟨rfl, trivial, bad (by rw [bi_f c, Bool.false_and])⟩, fun c => ⟨0, 117, by omega, Nat.le_refl _, (isTld_t I J w 0).mono ?_⟩⟩
  rintro v σ ⟨rfl, rfl⟩
  refine ⟨fun c1 => ?_, fun c1 => ⟨rfl, trivial, bad (by rw [bi_f c1, Bool.and_false])⟩⟩
  have hk := bi_t c
  have hr := bi_t c1
  obtain ⟨j, j1, rfl⟩ := isIn_of hk (by omega)
  obtain ⟨m, m0, m1, rfl⟩ := isTld_of hr
  have ej : (nI j).toNatClampNeg = j := nI_clamp (by omega)
  have em : (nI m).toNatClampNeg = m := nI_clamp (by omega)
  obtain ⟨t1, t2, t3⟩ := hB.2.2.2.2.2 j j1
  have hv : vp_in (nI j) 8 := vp_in_nI (by omega) (by decide)
  refine ⟨hv, fun c2 => ?_, fun c2 => ⟨rfl, trivial, ?_⟩⟩
  · have c2 : ¬ I 5 1 (nI j).toNatClampNeg = nI m := c2
    rw [ej, t2] at c2
    have e : oTurns (ev, L, H, img, kp, S, n, t) (nI j) (nI m) = (nI (nthD L j (0, 0, 0)).2.1, (ev, setO L j m, rem8 H L, img, kp, S, n, t)) := by
      simp only [oTurns]
      rw [if_pos (by rw [hk, hr]; rfl), ej, em, if_neg c2]
    rw [e]
    refine ⟨1, 117, by omega, Nat.le_refl _, (c_remember I J ev L H h.2.2.1 hB 1 (by decide)).mono ?_⟩
    rintro v σ ⟨rfl, I1, rfl, q1, q2⟩
    have hB1 : BK I1 1 ev L := hB.same (fun t h1 h2 => q2 t 1 (by omega))
    refine ⟨hv, 0, 117, by omega, Nat.le_refl _, (c_forgetAll (uI I1 5 1 j (nI m)) J 0).to rfl (show (uI I1 5 1 (nI j).toNatClampNeg (nI m), J, 117, aT) = _ by rw [ej]) ?_⟩
    rintro v σ ⟨rfl, rfl⟩
    refine ⟨rfl, trivial, ?_, _, rfl, h.chg (fun a b q => ?_) ?_ (h.1.2.2.1.set j1 m0 m1) (q1.k (fun a b q => ?_)) (h.2.2.2.1.rem h.1.2.2.1) ?_ ?_, fun a b q => ?_⟩
    · rw [ej, t2]
    · rw [uI_tt (by omega), uI_tt (by omega), uI_ne (fun e => by cases e; omega), q2 a b (by omega)]
    · obtain ⟨b1, b2, b3, b4, b5, b6⟩ := hB1
      refine ⟨?_, ?_, ?_, b4, b5, fun i hi => ?_⟩
      · rw [uI_t (by decide), uI_t (by decide), uI_t (by decide)]
        exact b1
      · rw [uI_t (by decide), uI_t (by decide), uI_t (by decide), b2]
        unfold setO
        rw [List.length_set]
      · unfold setO
        rw [List.length_set]
        exact b3
      · unfold setO at hi ⊢
        rw [List.length_set] at hi
        obtain ⟨z1, z2, z3⟩ := b6 i hi
        rw [nthD_set _ _ _ _ _ j1]
        refine ⟨?_, ?_, ?_⟩
        · rw [uI_t (by decide), uI_t (by decide), uI_t (by decide), z1]
          split
          · rename_i e1
            rw [e1]
          · rfl
        · rw [uI_t (by decide), uI_t (by decide)]
          by_cases e1 : i = j
          · rw [if_pos e1, e1, uI_at]
          · rw [if_neg e1, uI_j e1, z2]
        · rw [uI_t (by decide), uI_t (by decide), uI_t (by decide), z3]
          split
          · rename_i e1
            rw [e1]
          · rfl
    · rw [uI_tt (by omega), uI_tt (by omega), uI_ne (fun e => by cases e; omega)]
    · rw [uI_j (by decide), uI_at]
    · rw [uI_at]
    · rw [uI_tt (by omega), uI_tt (by omega), uI_tt (by omega), q2 a b (by omega)]
  · have c2 : I 5 1 (nI j).toNatClampNeg = nI m := c2
    rw [ej, t2] at c2
    have e : oTurns (ev, L, H, img, kp, S, n, t) (nI j) (nI m) = (-2, (ev, L, H, img, kp, S, n, t)) := by
      simp only [oTurns]
      rw [if_pos (by rw [hk, hr]; rfl), ej, if_pos c2]
    rw [e]
    exact ⟨rfl, I, rfl, h, fun _ _ _ => rfl⟩
set_option maxRecDepth 10000 in
theorem c_undo (I : SI) (J : SJ) (s : SS) (h : CR I J s) (d : Nat) (hd : 1 < d) : Tri d YX8_undo 117 [vr 25 0] (S0 I J) (fun r σ => r = some (vi (oUndo s).1) ∧ ∃ I1, σ = S0 I1 J ∧ CR I1 J (oUndo s).2 ∧ frC I I1) := by
  refine Tri.of (M := MX8_undo) k_X8_undo ⟨Nat.le_refl _, Nat.le_refl _⟩ (Nat.le_of_ble_eq_true rfl) ?_
  obtain ⟨ev, L, H, img, kp, S, n, t⟩ := s
  obtain ⟨π, p1, p2, p3, p4⟩ := h.2.2.1
  refine Sat.of k_X8_undo [] 60 ?_
  refine ⟨fun c => ?_, fun c => ⟨rfl, trivial, ?_⟩⟩
  · have c : ¬ I 18 0 1 = nI 0 := c
    rw [p2] at c
    have hpos : 0 < H.length := by
      rcases Nat.eq_zero_or_pos H.length with e | e
      · exact absurd (by rw [e]) c
      · exact e
    obtain ⟨R, K, rfl⟩ := snoc_of H hpos
    have el : (R ++ [K]).length = R.length + 1 := by rw [List.length_append]; rfl
    have e : oUndo (ev, L, R ++ [K], img, kp, S, n, t) = (nI R.length, (ev, K, R, img, kp, S, n, t)) := by
      simp only [oUndo]
      rw [if_neg (by omega), el, Nat.add_sub_cancel, nthD_len, List.dropLast_concat]
    have hw : WFo ev K := by
      have := h.2.2.2.1 R.length (by omega)
      rw [nthD_len] at this
      exact this
    have hwh : WFH ev R := fun j hj => by
      have := h.2.2.2.1 j (by omega)
      rw [nthD_app hj] at this
      exact this
    rw [e]
    refine ⟨1, 117, by omega, Nat.le_refl _, (c_recall I J ev K R h.2.2.1 1 (by decide)).mono ?_⟩
    rintro v σ ⟨rfl, I1, rfl, q1, q3, q2⟩
    refine ⟨0, 117, by omega, Nat.le_refl _, (c_forgetAll I1 J 0).mono ?_⟩
    rintro v σ ⟨rfl, rfl⟩
    have q1' : PST (uI (uI I1 7 0 8 0) 7 0 9 0) ev R := q1.k (fun a b q => by rw [uI_tt (by omega), uI_tt (by omega)])
    refine ⟨rfl, trivial, ?_, _, rfl, h.chg (fun a b q => ?_) (q3.same (fun t h1 h2 => by rw [uI_tt (by omega), uI_tt (by omega)])) hw q1' hwh ?_ ?_, fun a b q => ?_⟩
    · obtain ⟨π1, _, z2, _⟩ := q1'
      show some (vi (uI (uI I1 7 0 8 0) 7 0 9 0 18 0 1)) = _
      rw [z2]
    · rw [uI_tt (by omega), uI_tt (by omega), q2 a b (by omega)]
    · rw [uI_j (by decide), uI_at]
    · rw [uI_at]
    · rw [uI_tt (by omega), uI_tt (by omega), q2 a b (by omega)]
  · have c : I 18 0 1 = nI 0 := c
    rw [p2] at c
    have e0 := (nI_eq (by omega) (by decide)).mp c
    have e : oUndo (ev, L, H, img, kp, S, n, t) = (-2, (ev, L, H, img, kp, S, n, t)) := by
      simp only [oUndo]
      rw [if_pos e0]
    rw [e]
    exact ⟨rfl, I, rfl, h, fun _ _ _ => rfl⟩
