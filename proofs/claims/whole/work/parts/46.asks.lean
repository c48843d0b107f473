/-! The class: what is asked -/
theorem CR.F {I I1 : SI} {J J1 : SJ} {ev : Nat} {L : List Ob} {H : List (List Ob)} {img : Nat → List Ob} {kp : Nat → Bool} {S : List Ob} {n : Nat} {t : Nat → Nat} (h : CR I J (ev, L, H, img, kp, S, n, t)) (hf : frF I I1) (hF : FI I1 J1 ev L) (hR : FR I1 ev L) : CR I1 J1 (ev, L, H, img, kp, S, n, t) := by
  obtain ⟨_, _, h3, h4, h5, h6, h7, h8⟩ := h
  refine ⟨hF, hR, ?_, h4, ?_, h6, ?_, fun b hb => ?_⟩
  · obtain ⟨π, p1, p2, p3, p4⟩ := h3
    refine ⟨π, ?_, by rw [hf 18 0 (by omega)]; exact p2, p3, fun j hj => ?_⟩
    · unfold PRM at p1 ⊢
      rw [hf 19 0 (by omega)]
      exact p1
    · have := p4 j hj
      unfold BK at this ⊢
      rw [hf 3 _ (by omega), hf 4 _ (by omega), hf 5 _ (by omega), hf 6 _ (by omega)]
      exact this
  · unfold SNP at h5 ⊢
    rw [hf 21 0 (by omega), hf 22 0 (by omega), hf 23 0 (by omega), hf 24 0 (by omega)]
    exact h5
  · unfold LTR at h7 ⊢
    rw [hf 25 0 (by omega), hf 26 0 (by omega)]
    exact h7
  · obtain ⟨q1, q2⟩ := h8 b hb
    refine ⟨by rw [hf 28 0 (by omega)]; exact q1, fun q => ⟨?_, (q2 q).2⟩⟩
    have := (q2 q).1
    unfold BK at this ⊢
    rw [hf 3 _ (by omega), hf 4 _ (by omega), hf 5 _ (by omega), hf 6 _ (by omega)]
    exact this
theorem frF.C {I I1 : SI} (h : frF I I1) : frC I I1 := fun t k ht => h t k (by omega)
def isBet (x : Int32) (a b : Nat) : Bool := isIn x (b + 1) && !isIn x a
theorem isBet_t {x : Int32} {a b : Nat} (h : isBet x a b = true) (ha : a < 2 ^ 31) (hb : b + 1 < 2 ^ 31) : ∃ j, a ≤ j ∧ j ≤ b ∧ x = nI j := by
  unfold isBet at h
  rw [Bool.and_eq_true] at h
  obtain ⟨j, j1, j2⟩ := isIn_of h.1 hb
  refine ⟨j, ?_, by omega, j2⟩
  rcases Nat.lt_or_ge j a with q | q
  · have := h.2
    rw [j2, isIn_nI q ha] at this
    cases this
  · exact q
def oMany (s : SS) (m : Int32) : Int32 := if isBet m 1 300 then nI (min (hst s.1 s.2.1 0).length m.toNatClampNeg) else -1
def oEldest (s : SS) : Int32 := nI (eldN s.1 (hst s.1 s.2.1 0) s.1)
def oWrong (s : SS) (w : Int32) : Int32 := if w = 0 then nI (if 0 < (hst s.1 s.2.1 0).length then 0 else (goS s.1 s.2.1 s.2.1.length).2) else if w = 1 then nI (if 0 < (hst s.1 s.2.1 0).length then 0 else blm s.1 s.2.1 s.2.1.length) else -1
def oUnseen (s : SS) : Int32 := nI (sus s.1 s.2.1 s.2.2.2.2.2.1 s.2.1.length)
set_option maxRecDepth 10000 in
theorem c_many (I : SI) (J : SJ) (s : SS) (m : Int32) (h : CR I J s) (d : Nat) (hd : 20 < d) : Tri d YX8_many 117 [vr 25 0, vi m] (S0 I J) (fun r σ => r = some (vi (oMany s m)) ∧ ∃ I1 J1, σ = S0 I1 J1 ∧ CR I1 J1 s ∧ frC I I1) := by
  refine Tri.of (M := MX8_many) k_X8_many ⟨Nat.le_refl _, Nat.le_refl _⟩ (Nat.le_of_ble_eq_true rfl) ?_
  obtain ⟨ev, L, H, img, kp, S, n, t⟩ := s
  have bad : isBet m 1 300 = false → some (vi (-1 : Int32)) = some (vi (oMany (ev, L, H, img, kp, S, n, t) m)) ∧ ∃ I1 J1, S0 I J = S0 I1 J1 ∧ CR I1 J1 (ev, L, H, img, kp, S, n, t) ∧ frC I I1 := fun q => by
    unfold oMany
    rw [if_neg (by rw [q]; decide)]
    exact ⟨rfl, I, J, rfl, h, fun _ _ _ => rfl⟩
  by_cases hm : m < 0
  · have e0 : isBet m 1 300 = false := by unfold isBet; rw [isIn_f1 hm, Bool.false_and]
    have h1 : m < 1 := Int32.lt_of_lt_of_le hm (by decide)
    refine Sat.of k_X8_many [] 60 ?_
    exact ⟨fun c => ⟨rfl, trivial, bad e0⟩, fun c => absurd h1 c⟩
  · obtain ⟨j, j1, rfl⟩ := nI_of hm
    refine Sat.of k_X8_many [] 60 ?_
    refine ⟨fun c => ⟨rfl, trivial, bad ?_⟩, fun c => ⟨fun c1 => ?_, fun c1 => ⟨rfl, trivial, bad ?_⟩⟩⟩
    · have c : nI j < nI 1 := c
      rw [nI_ltI j1 (by decide)] at c
      unfold isBet
      rw [isIn_nI (j := j) (n := 1) c (by decide), Bool.not_true, Bool.and_false]
    · have c : ¬ nI j < nI 1 := c
      rw [nI_ltI j1 (by decide)] at c
      have c1 : nI j ≤ nI 300 := c1
      rw [nI_leI j1 (by decide)] at c1
      have e0 : isBet (nI j) 1 300 = true := by
        unfold isBet
        rw [isIn_nI (j := j) (n := 300 + 1) (by omega) (by decide), isIn_f2 (n := 1) (nI_le (by omega) j1)]
        rfl
      refine ⟨20, 117, hd, Nat.le_refl _, (c_findHistories I J ev j L h.1 (by omega) c1 20 (by decide)).mono ?_⟩
      rintro r σ ⟨rfl, I1, J1, rfl, q1, q2, q3, q4, q5⟩
      refine ⟨rfl, trivial, ?_, I1, J1, rfl, h.F q4 q1 (h.2.1.k q5), q4.C⟩
      unfold oMany
      rw [if_pos e0, nI_clamp (by omega)]
    · have c1 : ¬ nI j ≤ nI 300 := c1
      rw [nI_leI j1 (by decide)] at c1
      unfold isBet
      rw [isIn_f2 (n := 300 + 1) (nI_le (by omega) j1), Bool.false_and]
set_option maxRecDepth 10000 in
theorem c_eldestA (I : SI) (J : SJ) (s : SS) (h : CR I J s) (d : Nat) (hd : 21 < d) : Tri d YX8_eldest 117 [vr 25 0] (S0 I J) (fun r σ => r = some (vi (oEldest s)) ∧ ∃ I1 J1, σ = S0 I1 J1 ∧ CR I1 J1 s ∧ frC I I1) := by
  refine Tri.of (M := MX8_eldest) k_X8_eldest ⟨Nat.le_refl _, Nat.le_refl _⟩ (Nat.le_of_ble_eq_true rfl) ?_
  obtain ⟨ev, L, H, img, kp, S, n, t⟩ := s
  refine Sat.of k_X8_eldest [] 60 ?_
  refine ⟨21, 117, hd, Nat.le_refl _, (c_eldest I J ev L h.1 21 (by decide)).mono ?_⟩
  rintro r σ ⟨rfl, I1, J1, rfl, q1, q2, q3⟩
  exact ⟨rfl, trivial, rfl, I1, J1, rfl, h.F q2 q1 (h.2.1.k q3), q2.C⟩
set_option maxRecDepth 10000 in
theorem c_unseen (I : SI) (J : SJ) (s : SS) (h : CR I J s) (d : Nat) (hd : 21 < d) : Tri d YX8_unseen 117 [vr 25 0] (S0 I J) (fun r σ => r = some (vi (oUnseen s)) ∧ ∃ I1 J1, σ = S0 I1 J1 ∧ CR I1 J1 s ∧ frC I I1) := by
  refine Tri.of (M := MX8_unseen) k_X8_unseen ⟨Nat.le_refl _, Nat.le_refl _⟩ (Nat.le_of_ble_eq_true rfl) ?_
  obtain ⟨ev, L, H, img, kp, S, n, t⟩ := s
  refine Sat.of k_X8_unseen [] 60 ?_
  refine ⟨21, 117, hd, Nat.le_refl _, (c_suspects I J ev L S h.1 h.2.2.2.2.1 h.2.2.2.2.2.1 21 (by decide)).mono ?_⟩
  rintro r σ ⟨rfl, I1, J1, rfl, q1, q2, q3⟩
  exact ⟨rfl, trivial, rfl, I1, J1, rfl, h.F q2 q1 (h.2.1.k q3), q2.C⟩
set_option maxRecDepth 10000 in
theorem c_wrong (I : SI) (J : SJ) (s : SS) (w : Int32) (h : CR I J s) (d : Nat) (hd : 21 < d) : Tri d YX8_wrong 117 [vr 25 0, vi w] (S0 I J) (fun r σ => r = some (vi (oWrong s w)) ∧ ∃ I1 J1, σ = S0 I1 J1 ∧ CR I1 J1 s ∧ frC I I1) := by
  refine Tri.of (M := MX8_wrong) k_X8_wrong ⟨Nat.le_refl _, Nat.le_refl _⟩ (Nat.le_of_ble_eq_true rfl) ?_
  obtain ⟨ev, L, H, img, kp, S, n, t⟩ := s
  refine Sat.of k_X8_wrong [] 60 ?_
  refine ⟨⟨fun c => ⟨21, 117, hd, Nat.le_refl _, (c_quarrel I J ev L h.1 21 (by decide)).mono ?_⟩, fun c => ⟨21, 117, hd, Nat.le_refl _, (c_blame I J ev L h.1 21 (by decide)).mono ?_⟩, trivial⟩, fun c c1 => ⟨rfl, trivial, ?_, I, J, rfl, h, fun _ _ _ => rfl⟩⟩
  · rintro r σ ⟨rfl, I1, J1, rfl, q1, q2, q3⟩
    refine ⟨rfl, trivial, ?_, I1, J1, rfl, h.F q2 q1 (h.2.1.k q3), q2.C⟩
    have c : w = 0 := c
    unfold oWrong
    rw [if_pos c]
  · rintro r σ ⟨rfl, I1, J1, rfl, q1, q2, q3⟩
    refine ⟨rfl, trivial, ?_, I1, J1, rfl, h.F q2 q1 (h.2.1.k q3), q2.C⟩
    have c : w = 1 := c
    unfold oWrong
    rw [if_neg (show ¬ w = 0 by rw [c]; decide), if_pos c]
  · have c : ¬ w = 0 := c
    have c1 : ¬ w = 1 := c1
    unfold oWrong
    rw [if_neg c, if_neg c1]
