/-! The class: point, count, next, images -/
theorem rly_lt {ev : Nat} {L : List Ob} (h5 : ev ≤ 5) {a b : Nat} (ha : a < ev) (hb : b < ev) : rly (hst ev L 0) a b < 8192 := by
  unfold rly
  split
  · split <;> decide
  · have : ∀ T : List HS, (∀ l ∈ T, relH l a b < 13) → orL a b T < 8192 := fun T => by
      induction T with
      | nil => intro _; simp [orL]
      | cons l T ih =>
        intro hT
        exact Nat.or_lt_two_pow (n := 13) (pow_lt13 (hT l List.mem_cons_self)) (ih (fun l1 h1 => hT l1 (List.mem_cons_of_mem _ h1)))
    exact this (hst ev L 0) (fun l hl => ((sols_good h5 hl).l13 h5).rel ha hb)
/-- the answers of point, and how many there are -/
def APt (s : SS) (x e r : Int32) : Prop := match s with
  | (ev, L, _) => if isIn x ev && isIn e 2 then (if 0 < (hst ev L 0).length then ∃ B E, GP 1 ev B E ∧ ONL ev B E (nthD (hst ev L 0) 0 h00) ∧ r = nI (ptsA ev B E (tmv B E (2 * x.toNatClampNeg + e.toNatClampNeg))) else r = -9) else r = -1
def ACt (s : SS) (w r : Int32) : Prop := match s with
  | (ev, L, H, _, _, S, n, _) => if w = 0 then r = nI ev else if w = 1 then r = nI L.length else if w = 2 then r = nI S.length else if w = 3 then r = nI n else if w = 4 then r = nI H.length else if w = 5 then (if 0 < (hst ev L 0).length then ∃ B E, GP 1 ev B E ∧ ONL ev B E (nthD (hst ev L 0) 0 h00) ∧ r = nI (ptsA ev B E 243) else r = -9) else r = -1
theorem HAS.tm {I : SI} {J : SJ} {m ev : Nat} {T : List HS} (h : HAS I J m ev 1 T) (hp : 0 < T.length) : ∃ B E, GP 1 ev B E ∧ ONL ev B E (nthD T 0 h00) ∧ TMI I m ev B E := by
  obtain ⟨w, q1, q2⟩ := h
  have hlt : (List.take w T).length = min w T.length := List.length_take
  have hw : 0 < w := by omega
  obtain ⟨B, E, g1, g2, g3⟩ := q1.2.2.2 (by omega)
  rw [nthD_take hw] at g2
  refine ⟨B, E, g1, g2, fun x hx => ?_⟩
  have b1 := g1.1 (B x) ⟨x, hx, Or.inl rfl⟩
  have b2 := g1.1 (E x) ⟨x, hx, Or.inr rfl⟩
  exact ⟨(g3 x hx).1, (g3 x hx).2, by omega, by omega⟩
set_option maxRecDepth 10000 in
theorem c_point (I : SI) (J : SJ) (s : SS) (x e : Int32) (h : CR I J s) (d : Nat) (hd : 20 < d) : Tri d YX8_point 117 [vr 25 0, vi x, vi e] (S0 I J) (fun r σ => ∃ v I1 J1, r = some (vi v) ∧ APt s x e v ∧ σ = S0 I1 J1 ∧ CR I1 J1 s ∧ frC I I1) := by
  refine Tri.of (M := MX8_point) k_X8_point ⟨Nat.le_refl _, Nat.le_refl _⟩ (Nat.le_of_ble_eq_true rfl) ?_
  obtain ⟨ev, L, H, img, kp, S, n, t⟩ := s
  have hB := h.1.2.1
  have h5 := hB.2.2.2.2.1
  have no : (isIn x ev && isIn e 2) = false → APt (ev, L, H, img, kp, S, n, t) x e (-1) := fun q => by
    simp only [APt]
    rw [q, if_neg (by decide)]
    trivial
  have key : ¬ e < 0 → (e ≤ 1 ↔ ¬ nI 2 ≤ e) := fun hc => by
    obtain ⟨j, j1, rfl⟩ := nI_of hc
    rw [show (1 : Int32) = nI 1 from rfl, nI_leI j1 (by decide), nI_leI (by decide) j1]
    omega
  refine Sat.of k_X8_point [] 60 ?_
  refine ⟨0, 117, by omega, Nat.le_refl _, (c_isEvent I J 1 ev L x hB 0).mono ?_⟩
  rintro r σ ⟨rfl, rfl⟩
  refine ⟨fun c => ⟨rfl, trivial, _, I, J, rfl, no (by rw [bi_f c, Bool.false_and]), rfl, h, fun _ _ _ => rfl⟩, fun c => ⟨fun c1 => ⟨rfl, trivial, _, I, J, rfl, no (by rw [isIn_f1 c1, Bool.and_false]), rfl, h, fun _ _ _ => rfl⟩, fun c1 => ⟨fun c2 => ?_, fun c2 => ⟨rfl, trivial, _, I, J, rfl, no ?_, rfl, h, fun _ _ _ => rfl⟩⟩⟩⟩
  · have hx := bi_t c
    have he : isIn e 2 = true := isIn_t (n := 2) c1 ((key c1).mp c2)
    obtain ⟨i, i1, rfl⟩ := isIn_of hx (by omega)
    obtain ⟨j, j1, rfl⟩ := isIn_of he (by decide)
    have ei : (nI i).toNatClampNeg = i := nI_clamp (by omega)
    have ej : (nI j).toNatClampNeg = j := nI_clamp (by omega)
    have yes : (isIn (nI i) ev && isIn (nI j) 2) = true := by rw [hx, he]; rfl
    refine ⟨20, 117, hd, Nat.le_refl _, (c_findHistories I J ev 1 L h.1 (by decide) (by decide) 20 (by decide)).mono ?_⟩
    rintro v σ ⟨rfl, I1, J1, rfl, q1, q2, q3, q4, q5⟩
    refine ⟨fun c3 => ⟨rfl, trivial, _, I1, J1, rfl, ?_, rfl, h.F q4 q1 (h.2.1.k q5), q4.C⟩, fun c3 => ?_⟩
    · have c3 : nI (min (hst ev L 0).length 1) ≤ nI 0 := c3
      rw [nI_leI (by omega) (by decide)] at c3
      simp only [APt]
      rw [if_pos yes, if_neg (by omega)]
      trivial
    · have c3 : ¬ nI (min (hst ev L 0).length 1) ≤ nI 0 := c3
      rw [nI_leI (by omega) (by decide)] at c3
      obtain ⟨B, E, g1, g2, g3⟩ := q3.tm (by omega)
      obtain ⟨Nc, bc, w, fa, z1, _⟩ := q2
      refine ⟨2, 117, by omega, Nat.le_refl _, (c_pointOf I1 J1 0 ev i j B E g3 z1.1 h5 i1 j1 2 (by decide)).mono ?_⟩
      rintro v σ ⟨rfl, rfl⟩
      refine ⟨rfl, trivial, _, I1, J1, rfl, ?_, rfl, h.F q4 q1 (h.2.1.k q5), q4.C⟩
      simp only [APt]
      rw [if_pos yes, if_pos (by omega), ei, ej]
      exact ⟨B, E, g1, g2, rfl⟩
  · rw [isIn_f2 (n := 2) (Classical.not_not.mp (fun q2 => c2 ((key c1).mpr q2))), Bool.and_false]
set_option maxRecDepth 10000 in
theorem c_count (I : SI) (J : SJ) (s : SS) (w : Int32) (h : CR I J s) (d : Nat) (hd : 20 < d) : Tri d YX8_count 117 [vr 25 0, vi w] (S0 I J) (fun r σ => ∃ v I1 J1, r = some (vi v) ∧ ACt s w v ∧ σ = S0 I1 J1 ∧ CR I1 J1 s ∧ frC I I1) := by
  refine Tri.of (M := MX8_count) k_X8_count ⟨Nat.le_refl _, Nat.le_refl _⟩ (Nat.le_of_ble_eq_true rfl) ?_
  obtain ⟨ev, L, H, img, kp, S, n, t⟩ := s
  have hB := h.1.2.1
  have h5 := hB.2.2.2.2.1
  obtain ⟨π, p1, p2, p3, p4⟩ := h.2.2.1
  have hs : SNP I S := h.2.2.2.2.1
  have hl : LTR I n t := h.2.2.2.2.2.2.1
  refine Sat.of k_X8_count [] 60 ?_
  refine ⟨⟨fun c => ⟨rfl, trivial, _, I, J, rfl, ?_, rfl, h, fun _ _ _ => rfl⟩, fun c => ⟨rfl, trivial, _, I, J, rfl, ?_, rfl, h, fun _ _ _ => rfl⟩, fun c => ⟨rfl, trivial, _, I, J, rfl, ?_, rfl, h, fun _ _ _ => rfl⟩, fun c => ⟨rfl, trivial, _, I, J, rfl, ?_, rfl, h, fun _ _ _ => rfl⟩, fun c => ⟨rfl, trivial, _, I, J, rfl, ?_, rfl, h, fun _ _ _ => rfl⟩, fun c => ⟨20, 117, hd, Nat.le_refl _, (c_findHistories I J ev 1 L h.1 (by decide) (by decide) 20 (by decide)).mono ?_⟩, trivial⟩, fun c0 c1 c2 c3 c4 c5 => ⟨rfl, trivial, _, I, J, rfl, ?_, rfl, h, fun _ _ _ => rfl⟩⟩
  · have c : w = 0 := c
    simp only [ACt]
    rw [if_pos c]
    exact hB.1
  · have c : w = 1 := c
    simp only [ACt]
    rw [if_neg (show ¬ w = 0 by rw [c]; decide), if_pos c]
    exact hB.2.1
  · have c : w = 2 := c
    simp only [ACt]
    rw [if_neg (show ¬ w = 0 by rw [c]; decide), if_neg (show ¬ w = 1 by rw [c]; decide), if_pos c]
    exact hs.1
  · have c : w = 3 := c
    simp only [ACt]
    rw [if_neg (show ¬ w = 0 by rw [c]; decide), if_neg (show ¬ w = 1 by rw [c]; decide), if_neg (show ¬ w = 2 by rw [c]; decide), if_pos c]
    exact hl.1
  · have c : w = 4 := c
    simp only [ACt]
    rw [if_neg (show ¬ w = 0 by rw [c]; decide), if_neg (show ¬ w = 1 by rw [c]; decide), if_neg (show ¬ w = 2 by rw [c]; decide), if_neg (show ¬ w = 3 by rw [c]; decide), if_pos c]
    exact p2
  · have c : w = 5 := c
    rintro v σ ⟨rfl, I1, J1, rfl, q1, q2, q3, q4, q5⟩
    refine ⟨fun c3 => ⟨rfl, trivial, _, I1, J1, rfl, ?_, rfl, h.F q4 q1 (h.2.1.k q5), q4.C⟩, fun c3 => ?_⟩
    · have c3 : nI (min (hst ev L 0).length 1) ≤ nI 0 := c3
      rw [nI_leI (by omega) (by decide)] at c3
      simp only [ACt]
      rw [if_neg (show ¬ w = 0 by rw [c]; decide), if_neg (show ¬ w = 1 by rw [c]; decide), if_neg (show ¬ w = 2 by rw [c]; decide), if_neg (show ¬ w = 3 by rw [c]; decide), if_neg (show ¬ w = 4 by rw [c]; decide), if_pos c, if_neg (by omega)]
      trivial
    · have c3 : ¬ nI (min (hst ev L 0).length 1) ≤ nI 0 := c3
      rw [nI_leI (by omega) (by decide)] at c3
      obtain ⟨B, E, g1, g2, g3⟩ := q3.tm (by omega)
      obtain ⟨Nc, bc, ww, fa, z1, _⟩ := q2
      refine ⟨2, 117, by omega, Nat.le_refl _, (c_allPoints I1 J1 0 ev B E g3 z1.1 h5 2 (by decide)).mono ?_⟩
      rintro v σ ⟨rfl, rfl⟩
      refine ⟨rfl, trivial, _, I1, J1, rfl, ?_, rfl, h.F q4 q1 (h.2.1.k q5), q4.C⟩
      simp only [ACt]
      rw [if_neg (show ¬ w = 0 by rw [c]; decide), if_neg (show ¬ w = 1 by rw [c]; decide), if_neg (show ¬ w = 2 by rw [c]; decide), if_neg (show ¬ w = 3 by rw [c]; decide), if_neg (show ¬ w = 4 by rw [c]; decide), if_pos c, if_pos (by omega)]
      exact ⟨B, E, g1, g2, rfl⟩
  · have c0 : ¬ w = 0 := c0
    have c1 : ¬ w = 1 := c1
    have c2 : ¬ w = 2 := c2
    have c3 : ¬ w = 3 := c3
    have c4 : ¬ w = 4 := c4
    have c5 : ¬ w = 5 := c5
    simp only [ACt]
    rw [if_neg c0, if_neg c1, if_neg c2, if_neg c3, if_neg c4, if_neg c5]
    trivial
def nxS (N : NF) : Nat → Int32 × Nat
  | 0 => (-9, 1)
  | p + 1 => if (nxS N p).2 < pop (N (loT p) (hiT p)) then (nI (10 * loT p + hiT p), pop (N (loT p) (hiT p))) else nxS N p
def oNext (s : SS) : Int32 := (nxS (rly (hst s.1 s.2.1 0)) (PRb 0 s.1)).1
theorem nxS_le {N : NF} : ∀ {p : Nat}, (nxS N p).2 ≤ 13
  | 0 => by simp [nxS]
  | p + 1 => by
    simp only [nxS]
    split
    · exact pop_13 _
    · exact nxS_le
theorem ten_t : ∀ k, k < 10 → (10 : Int32) * nI (loT k) + nI (hiT k) = nI (10 * loT k + hiT k) := by decide +kernel
theorem hiT_lt : ∀ ev, ev < 6 → ∀ q, q < 10 → q < PRb 0 ev → hiT q < ev := by decide +kernel
set_option maxRecDepth 10000 in
theorem c_next (I : SI) (J : SJ) (s : SS) (h : CR I J s) (d : Nat) (hd : 21 < d) : Tri d YX8_next 117 [vr 25 0] (S0 I J) (fun r σ => r = some (vi (oNext s)) ∧ ∃ I1 J1, σ = S0 I1 J1 ∧ CR I1 J1 s ∧ frC I I1) := by
  refine Tri.of (M := MX8_next) k_X8_next ⟨Nat.le_refl _, Nat.le_refl _⟩ (Nat.le_of_ble_eq_true rfl) ?_
  obtain ⟨ev, L, H, img, kp, S, n, t⟩ := s
  have hB := h.1.2.1
  have h5 := hB.2.2.2.2.1
  have p10 := PRb0_le ev (by omega)
  have loop : ∀ (I1 : SI) (J1 : SJ), FI I1 J1 ev L → FR I1 ev L → FIr I1 ev L → frF I I1 → ∀ (m p : Nat) (v : Option AV), p + m = PRb 0 ev →
      Sat none MX8_next d 117 (fun r σ => r = some (vi (oNext (ev, L, H, img, kp, S, n, t))) ∧ ∃ I1 J1, σ = S0 I1 J1 ∧ CR I1 J1 (ev, L, H, img, kp, S, n, t) ∧ frC I I1) 16 [some (vr 25 0), some (vr 16 2), some (vi (nxS (rly (hst ev L 0)) p).1), some (vi (nI (nxS (rly (hst ev L 0)) p).2)), some (vi (nI p)), v] [] (S0 I1 J1) := by
    intro I1 J1 f1 f2 f3 f4 m
    induction m with
    | zero =>
      intro p v hp
      have e : p = PRb 0 ev := by omega
      subst e
      refine Sat.of k_X8_next [16] 60 ?_
      refine ⟨0, 117, by omega, Nat.le_refl _, (c_pairsOf I1 J1 ev (by omega) 0).to ?_ rfl ?_⟩
      · show [vi (I1 3 1 4)] = _
        rw [f1.2.1.1]
      rintro r σ ⟨rfl, rfl⟩
      refine ⟨fun c => ⟨rfl, trivial, rfl, I1, J1, rfl, h.F f4 f1 f2, f4.C⟩, fun c => absurd (nI_le (a := PRb 0 ev) (b := PRb 0 ev) (Nat.le_refl _) (by omega)) c⟩
    | succ m ih =>
      intro p v hp
      obtain ⟨t1, t2, t3⟩ := lohi_t p (by omega)
      have hhi : hiT p < ev := hiT_lt ev (by omega) p (by omega) (by omega)
      have ep : (nI p).toNatClampNeg = p := nI_clamp (by omega)
      have hv : vp_in (nI p) 10 := vp_in_nI (by omega) (by decide)
      have hl8 := rly_lt (L := L) h5 (show loT p < ev by omega) hhi
      have hRN : RN I1 2 ev (rly (hst ev L 0)) := fun a b ha hb => ⟨f3 a b ha hb, rly_lt h5 ha hb⟩
      have hm := nxS_le (N := rly (hst ev L 0)) (p := p)
      have hpop := pop_13 (rly (hst ev L 0) (loT p) (hiT p))
      refine Sat.of k_X8_next [16] 60 ?_
      refine ⟨0, 117, by omega, Nat.le_refl _, (c_pairsOf I1 J1 ev (by omega) 0).to ?_ rfl ?_⟩
      · show [vi (I1 3 1 4)] = _
        rw [f1.2.1.1]
      rintro r σ ⟨rfl, rfl⟩
      refine ⟨fun c => absurd ((nI_leI (a := PRb 0 ev) (by omega) (by omega)).mp c) (by omega), fun c => ⟨hv, hv, 0, 117, by omega, Nat.le_refl _, (c_atR I1 J1 2 ev (loT p) (hiT p) _ hRN h5 (by omega) hhi 0).to ?_ rfl ?_⟩⟩
      · show [vr 16 2, vi (nthD c60 (nI p).toNatClampNeg 0), vi (nthD c61 (nI p).toNatClampNeg 0)] = _
        rw [ep, c60_t p (by omega), c61_t p (by omega)]
      rintro r σ ⟨rfl, rfl⟩
      refine ⟨0, 117, by omega, Nat.le_refl _, (c_bitCount I1 J1 _ hl8 0).mono ?_⟩
      rintro r σ ⟨rfl, rfl⟩
      refine ⟨fun c1 => ?_, fun c1 => ⟨hv, hv, ?_⟩⟩
      · have c1 : nI (pop (rly (hst ev L 0) (loT p) (hiT p))) ≤ nI (nxS (rly (hst ev L 0)) p).2 := c1
        rw [nI_leI (by omega) (by omega)] at c1
        have e : nxS (rly (hst ev L 0)) (p + 1) = nxS (rly (hst ev L 0)) p := by
          simp only [nxS]
          rw [if_neg (by omega)]
        refine (ih (p + 1) (some (vi (nI (pop (rly (hst ev L 0) (loT p) (hiT p)))))) (by omega)).to ?_ rfl
        rw [e, ← nI_1]
        rfl
      · have c1 : ¬ nI (pop (rly (hst ev L 0) (loT p) (hiT p))) ≤ nI (nxS (rly (hst ev L 0)) p).2 := c1
        rw [nI_leI (by omega) (by omega)] at c1
        have e : nxS (rly (hst ev L 0)) (p + 1) = (nI (10 * loT p + hiT p), pop (rly (hst ev L 0) (loT p) (hiT p))) := by
          simp only [nxS]
          rw [if_pos (by omega)]
        refine (ih (p + 1) (some (vi (nI (pop (rly (hst ev L 0) (loT p) (hiT p)))))) (by omega)).to ?_ rfl
        rw [e, ← nI_1]
        show [some (vr 25 0), some (vr 16 2), some (vi ((10 : Int32) * nthD c60 (nI p).toNatClampNeg 0 + nthD c61 (nI p).toNatClampNeg 0)), _, _, _] = _
        rw [ep, c60_t p (by omega), c61_t p (by omega), ten_t p (by omega)]
  refine Sat.of k_X8_next [16] 60 ?_
  refine ⟨21, 117, hd, Nat.le_refl _, (c_reallyNet I J ev L h.1 h.2.1 21 (by decide)).mono ?_⟩
  rintro r σ ⟨rfl, I1, J1, rfl, f1, f2, f3, f4⟩
  exact (loop I1 J1 f1 f2 f3 f4 (PRb 0 ev) 0 none (by omega)).to rfl rfl
def putA {α : Type} (f : Nat → α) (i : Nat) (v : α) : Nat → α := fun j => if j = i then v else f j
def oKeep (s : SS) (i : Int32) : Int32 × SS := match s with
  | (ev, L, H, img, kp, S, n, t) => if isIn i 2 then (nI L.length, (ev, L, H, putA img i.toNatClampNeg L, putA kp i.toNatClampNeg true, S, n, t)) else (-1, s)
def oBack (s : SS) (i : Int32) : Int32 × SS := match s with
  | (ev, L, H, img, kp, S, n, t) => if isIn i 2 then (if kp i.toNatClampNeg then (nI (img i.toNatClampNeg).length, (ev, img i.toNatClampNeg, [], img, kp, S, n, t)) else (-2, (ev, L, H, img, kp, S, n, t))) else (-1, (ev, L, H, img, kp, S, n, t))
set_option maxRecDepth 10000 in
theorem c_keep (I : SI) (J : SJ) (s : SS) (i : Int32) (h : CR I J s) (d : Nat) (hd : 0 < d) : Tri d YX8_keep 117 [vr 25 0, vi i] (S0 I J) (fun r σ => r = some (vi (oKeep s i).1) ∧ ∃ I1, σ = S0 I1 J ∧ CR I1 J (oKeep s i).2 ∧ frC I I1) := by
  refine Tri.of (M := MX8_keep) k_X8_keep ⟨Nat.le_refl _, Nat.le_refl _⟩ (Nat.le_of_ble_eq_true rfl) ?_
  obtain ⟨ev, L, H, img, kp, S, n, t⟩ := s
  have hB := h.1.2.1
  have bad : isIn i 2 = false → some (vi (-1 : Int32)) = some (vi (oKeep (ev, L, H, img, kp, S, n, t) i).1) ∧ ∃ I1, S0 I J = S0 I1 J ∧ CR I1 J (oKeep (ev, L, H, img, kp, S, n, t) i).2 ∧ frC I I1 := fun q => by
    have e : oKeep (ev, L, H, img, kp, S, n, t) i = (-1, (ev, L, H, img, kp, S, n, t)) := by
      simp only [oKeep]
      rw [if_neg (by rw [q]; decide)]
    rw [e]
    exact ⟨rfl, I, rfl, h, fun _ _ _ => rfl⟩
  refine Sat.of k_X8_keep [] 60 ?_
  refine ⟨fun c => ⟨rfl, trivial, bad (isIn_f1 c)⟩, fun c => ⟨fun c1 => ?_, fun c1 => ⟨rfl, trivial, bad (isIn_f2 (n := 2) (Int32.not_lt.mp c1))⟩⟩⟩
  have hi : isIn i 2 = true := isIn_t (n := 2) c (Int32.not_le.mpr c1)
  obtain ⟨j, j1, rfl⟩ := isIn_of hi (by decide)
  have ej : (nI j).toNatClampNeg = j := nI_clamp (by omega)
  have hv : vp_in (nI j) 2 := vp_in_nI (by omega) (by decide)
  have e : oKeep (ev, L, H, img, kp, S, n, t) (nI j) = (nI L.length, (ev, L, H, putA img j L, putA kp j true, S, n, t)) := by
    simp only [oKeep]
    rw [if_pos hi, ej]
  rw [e]
  refine ⟨hv, 0, 117, hd, Nat.le_refl _, (c_copyFrom I J (10 + j) 1 ev L hB (by omega) 0).to (show [vr 3 (10 + (nI j).toNatClampNeg), vr 3 1] = _ by rw [ej]) rfl ?_⟩
  rintro r σ ⟨rfl, I1, rfl, q1, q2⟩
  have hf : ∀ a b, ¬ (a = 28 ∨ (3 ≤ a ∧ a ≤ 6 ∧ b = 10 + j)) → uI I1 28 0 j 1 a b = I a b := fun a b q => by rw [uI_tt (by omega), q2 a b (by omega)]
  refine ⟨hv, Or.inr rfl, rfl, trivial, ?_, uI I1 28 0 j 1, (show (uI I1 28 0 (nI j).toNatClampNeg 1, J, 117, aT) = _ by rw [ej]), ?_, fun a b q => hf a b (by omega)⟩
  · show some (vi (uI I1 28 0 (nI j).toNatClampNeg 1 3 1 3)) = _
    rw [uI_t (by decide), q2 3 1 (by omega), hB.2.1]
  · obtain ⟨⟨a1, a2, a3, kc, a4, a6⟩, ⟨kr, r1, r2⟩, h3, h4, h5, h6, h7, h8⟩ := h
    refine ⟨⟨?_, a2.same (fun t _ _ => hf t 1 (by omega)), a3, kc, by rw [hf 7 0 (by omega)]; exact a4, fun q => (a6 q).k (hf 16 1 (by omega)) (hf 17 1 (by omega)) (hf 8 0 (by omega)) (hf 15 0 (by omega)) rfl⟩, ⟨kr, by rw [hf 7 0 (by omega)]; exact r1, fun q x y hx hy => by rw [hf 17 2 (by omega)]; exact r2 q x y hx hy⟩, h3.k (fun a b q => hf a b (by omega)), h4, ?_, h6, ?_, fun b hb => ?_⟩
    · unfold ALG at a1 ⊢
      rw [hf 1 0 (by omega), hf 2 0 (by omega)]
      exact a1
    · unfold SNP at h5 ⊢
      rw [hf 21 0 (by omega), hf 22 0 (by omega), hf 23 0 (by omega), hf 24 0 (by omega)]
      exact h5
    · unfold LTR at h7 ⊢
      rw [hf 25 0 (by omega), hf 26 0 (by omega)]
      exact h7
    · unfold putA
      by_cases eb : b = j
      · subst eb
        rw [if_pos rfl, if_pos rfl, uI_at]
        exact ⟨rfl, fun _ => ⟨q1.same (fun t _ _ => uI_tt (by omega)), a3⟩⟩
      · rw [if_neg eb, if_neg eb, uI_j eb, q2 28 0 (by omega)]
        obtain ⟨z1, z2⟩ := h8 b hb
        exact ⟨z1, fun q => ⟨(z2 q).1.same (fun t _ _ => hf t (10 + b) (by omega)), (z2 q).2⟩⟩
set_option maxRecDepth 10000 in
theorem c_back (I : SI) (J : SJ) (s : SS) (i : Int32) (h : CR I J s) (d : Nat) (hd : 0 < d) : Tri d YX8_back 117 [vr 25 0, vi i] (S0 I J) (fun r σ => r = some (vi (oBack s i).1) ∧ ∃ I1, σ = S0 I1 J ∧ CR I1 J (oBack s i).2 ∧ frC I I1) := by
  refine Tri.of (M := MX8_back) k_X8_back ⟨Nat.le_refl _, Nat.le_refl _⟩ (Nat.le_of_ble_eq_true rfl) ?_
  obtain ⟨ev, L, H, img, kp, S, n, t⟩ := s
  have hB := h.1.2.1
  have bad : isIn i 2 = false → some (vi (-1 : Int32)) = some (vi (oBack (ev, L, H, img, kp, S, n, t) i).1) ∧ ∃ I1, S0 I J = S0 I1 J ∧ CR I1 J (oBack (ev, L, H, img, kp, S, n, t) i).2 ∧ frC I I1 := fun q => by
    have e : oBack (ev, L, H, img, kp, S, n, t) i = (-1, (ev, L, H, img, kp, S, n, t)) := by
      simp only [oBack]
      rw [if_neg (by rw [q]; decide)]
    rw [e]
    exact ⟨rfl, I, rfl, h, fun _ _ _ => rfl⟩
  refine Sat.of k_X8_back [] 60 ?_
  refine ⟨fun c => ⟨rfl, trivial, bad (isIn_f1 c)⟩, fun c => ⟨fun c1 => ?_, fun c1 => ⟨rfl, trivial, bad (isIn_f2 (n := 2) (Int32.not_lt.mp c1))⟩⟩⟩
  have hi : isIn i 2 = true := isIn_t (n := 2) c (Int32.not_le.mpr c1)
  obtain ⟨j, j1, rfl⟩ := isIn_of hi (by decide)
  have ej : (nI j).toNatClampNeg = j := nI_clamp (by omega)
  have hv : vp_in (nI j) 2 := vp_in_nI (by omega) (by decide)
  obtain ⟨z1, z2⟩ := h.2.2.2.2.2.2.2 j j1
  refine ⟨hv, fun c2 => ?_, fun c2 => ⟨rfl, trivial, ?_⟩⟩
  · have c2 : ¬ I 28 0 (nI j).toNatClampNeg = 0 := c2
    rw [ej, z1] at c2
    have hk := bi_t c2
    have e : oBack (ev, L, H, img, kp, S, n, t) (nI j) = (nI (img j).length, (ev, img j, [], img, kp, S, n, t)) := by
      simp only [oBack]
      rw [if_pos hi, ej, if_pos hk]
    rw [e]
    obtain ⟨y1, y2⟩ := z2 hk
    refine ⟨hv, 0, 117, hd, Nat.le_refl _, (c_copyFrom I J 1 (10 + j) ev (img j) y1 (by omega) 0).to (show [vr 3 1, vr 3 (10 + (nI j).toNatClampNeg)] = _ by rw [ej]) rfl ?_⟩
    rintro r σ ⟨rfl, I1, rfl, q1, q2⟩
    refine ⟨0, 117, hd, Nat.le_refl _, (c_dropAll I1 J 0).mono ?_⟩
    rintro r σ ⟨rfl, rfl⟩
    refine ⟨0, 117, hd, Nat.le_refl _, (c_forgetAll (uI I1 18 0 1 0) J 0).mono ?_⟩
    rintro v σ ⟨rfl, rfl⟩
    have q3 : BK (uI (uI (uI I1 18 0 1 0) 7 0 8 0) 7 0 9 0) 1 ev (img j) := q1.same (fun t h1 h2 => by rw [uI_tt (by omega), uI_tt (by omega), uI_tt (by omega)])
    refine ⟨rfl, trivial, ?_, _, rfl, h.chg (fun a b q => ?_) q3 y2 ?_ (fun j hj => absurd hj (by simp)) ?_ ?_, fun a b q => ?_⟩
    · show some (vi (uI (uI (uI I1 18 0 1 0) 7 0 8 0) 7 0 9 0 3 1 3)) = _
      rw [q3.2.1]
    · rw [uI_tt (by omega), uI_tt (by omega), uI_tt (by omega), q2 a b (by omega)]
    · obtain ⟨π, p1, p2, p3, p4⟩ := h.2.2.1
      refine ⟨π, ?_, ?_, by simp, fun j hj => absurd hj (by simp)⟩
      · unfold PRM at p1 ⊢
        rw [uI_tt (by decide), uI_tt (by decide), uI_tt (by decide), q2 19 0 (by omega)]
        exact p1
      · rw [uI_t (by decide), uI_t (by decide), uI_at]
        rfl
    · rw [uI_j (by decide), uI_at]
    · rw [uI_at]
    · rw [uI_tt (by omega), uI_tt (by omega), uI_tt (by omega), q2 a b (by omega)]
  · have c2 : I 28 0 (nI j).toNatClampNeg = 0 := c2
    rw [ej, z1] at c2
    have e : oBack (ev, L, H, img, kp, S, n, t) (nI j) = (-2, (ev, L, H, img, kp, S, n, t)) := by
      simp only [oBack]
      rw [if_pos hi, ej, if_neg (by rw [bi_f c2]; decide)]
    rw [e]
    exact ⟨rfl, I, rfl, h, fun _ _ _ => rfl⟩
