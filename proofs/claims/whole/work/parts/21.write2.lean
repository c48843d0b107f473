/-! The line: writing and reading histories -/
theorem uJ_at {J : SJ} {k j : Nat} {x : Int64} : uJ J k j x k j = x := by simp [uJ]
theorem uJ_j {J : SJ} {k j b c : Nat} {x : Int64} (h : c ≠ j) : uJ J k j x b c = J b c := by simp [uJ, h]
theorem uJ_k {J : SJ} {k j b : Nat} {x : Int64} (h : b ≠ k) : uJ J k j x b = J b := by
  funext c
  simp [uJ, h]
def h00 : HS := fun _ => 0
/-- each event begins and ends on the line as l says -/
def ONL (ev : Nat) (B E : Nat → Nat) (l : HS) : Prop := ∀ z w, z < w → w < ev → RLT (B z) (E z) (B w) (E w) (l (PRb z w))
def TMS (I : SI) (m ev : Nat) (l : HS) : Prop := ∃ B E, GP 1 ev B E ∧ ONL ev B E l ∧ ∀ x, x < ev → I 15 m (2 * x) = nI (B x) ∧ I 15 m (2 * x + 1) = nI (E x)
/-- the line m has the histories H -/
def LST (I : SI) (J : SJ) (m ev : Nat) (H : List HS) : Prop := I 8 m 6 = nI H.length ∧ H.length ≤ tlen 14 m ∧ (∀ k, k < H.length → J m k = lN (encN (nthD H k h00) (PRb 0 ev)) ∧ ∀ p, p < PRb 0 ev → nthD H k h00 p < 13) ∧ (0 < H.length → TMS I m ev (nthD H 0 h00))
theorem tlen_14 (m : Nat) : tlen 14 m ≤ 300 ∧ 1 ≤ tlen 14 m := by
  cases m with
  | zero => exact ⟨Nat.le_refl _, by decide⟩
  | succ m => exact ⟨Nat.le_of_ble_eq_true rfl, Nat.le_of_ble_eq_true rfl⟩
theorem PRb0_le : ∀ ev, ev < 6 → PRb 0 ev ≤ 10 := by decide +kernel
theorem nthD_app {α : Type} {z : α} : ∀ {l r : List α} {j : Nat}, j < l.length → nthD (l ++ r) j z = nthD l j z
  | [], _, _, h => absurd h (by simp)
  | _ :: _, _, 0, _ => rfl
  | _ :: l, r, j + 1, h => nthD_app (l := l) (r := r) (j := j) (by simpa using h)
theorem nthD_len {α : Type} {z a : α} : ∀ {l r : List α}, nthD (l ++ a :: r) l.length z = a
  | [], _ => rfl
  | _ :: l, r => nthD_len (l := l) (r := r)
def frW (m : Nat) (I I1 : SI) : Prop := ∀ t k, ¬ (k = m ∧ (t = 8 ∨ t = 15)) → I1 t k = I t k
set_option maxRecDepth 10000 in
theorem c_write (I : SI) (J : SJ) (m ev : Nat) (H : List HS) (l : HS) (B E : Nat → Nat) (h : LST I J m ev H) (hlen : H.length < tlen 14 m) (he : I 16 (2 * m + 1) 2 = nI ev) (h2 : 2 ≤ ev) (h5 : ev ≤ 5) (hc : ∀ q, q < PRb 0 ev → I 13 m q = nI (l q) ∧ l q < 13) (hG : GP 1 ev B E) (hO : ONL ev B E l) (hB : LB I m ev B E) (d : Nat) (hd : 0 < d) : Tri d YX3_write 117 [vr 8 m] (S0 I J) (fun r σ => r = none ∧ ∃ I1 J1, σ = S0 I1 J1 ∧ LST I1 J1 m ev (H ++ [l]) ∧ frW m I I1 ∧ I1 8 m 7 = I 8 m 7 ∧ I1 8 m 8 = I 8 m 8 ∧ ∀ k, k ≠ m → J1 k = J k) := by
  refine Tri.of (M := MX3_write) k_X3_write ⟨Nat.le_refl _, Nat.le_refl _⟩ (Nat.le_of_ble_eq_true rfl) ?_
  obtain ⟨g1, g2, g3, g4⟩ := h
  have t300 := tlen_14 m
  have p10 := PRb0_le ev (by omega)
  have loop2 : ∀ (n p : Nat) (I1 : SI), p + n = PRb 0 ev → frW m I I1 → I1 8 m = I 8 m → (∀ x, x < ev → (0 < H.length → I1 15 m = I 15 m) ∧ (H.length = 0 → I1 15 m (2 * x) = nI (B x) ∧ I1 15 m (2 * x + 1) = nI (E x))) → Sat none MX3_write d 117 (fun r σ => r = none ∧ ∃ I1 J1, σ = S0 I1 J1 ∧ LST I1 J1 m ev (H ++ [l]) ∧ frW m I I1 ∧ I1 8 m 7 = I 8 m 7 ∧ I1 8 m 8 = I 8 m 8 ∧ ∀ k, k ≠ m → J1 k = J k) 54 [some (vr 8 m), some (vl (lN (encN l p))), none, some (vi (nI p))] [] (S0 I1 J) := by
    intro n
    induction n with
    | zero =>
      intro p I1 hp f1 f2 f3
      have ep : p = PRb 0 ev := by omega
      subst ep
      have he1 : I1 16 (2 * m + 1) 2 = nI ev := by rw [f1 16 _ (by omega)]; exact he
      refine Sat.of k_X3_write [9, 54] 60 ?_
      refine ⟨0, 117, hd, Nat.le_refl _, (c_pairsOf I1 J ev (by omega) 0).to ?_ rfl ?_⟩
      · show [vi (I1 16 (2 * m + 1) 2)] = _
        rw [he1]
      · rintro r σ ⟨rfl, rfl⟩
        have es : I1 8 m 6 = nI H.length := by rw [f2]; exact g1
        refine ⟨fun c => ⟨fun c1 => ?_, fun c1 => ⟨?_, rfl, rfl, rfl, ?_⟩⟩, fun c => absurd (nI_le (a := PRb 0 ev) (b := PRb 0 ev) (Nat.le_refl _) (by omega)) c⟩
        · have c1 : nI (tlen 14 m) ≤ I1 8 m 6 := c1
          rw [es] at c1
          exact absurd ((nI_leI (by omega) (by omega)).mp c1) (by omega)
        · show vp_in (I1 8 m 6) (tlen 14 m)
          rw [es]
          exact vp_in_nI hlen (by omega)
        · refine ⟨uI I1 8 m 6 (I1 8 m 6 + 1), uJ J m (I1 8 m 6).toNatClampNeg (lN (encN l (PRb 0 ev))), rfl, ⟨?_, ?_, ?_, ?_⟩, ?_, ?_, ?_, ?_⟩
          · rw [uI_at, es, nI_1, List.length_append]
            rfl
          · rw [List.length_append]
            exact hlen
          · intro k hk
            rw [List.length_append] at hk
            have hk : k < H.length + 1 := hk
            rw [es, nI_clamp (by omega)]
            by_cases e : k = H.length
            · subst e
              rw [uJ_at, nthD_len]
              exact ⟨rfl, fun p hp => (hc p hp).2⟩
            · rw [uJ_j e, nthD_app (by omega)]
              exact g3 k (by omega)
          · intro _
            by_cases e : 0 < H.length
            · rw [nthD_app e]
              obtain ⟨B1, E1, q1, q2, q3⟩ := g4 e
              refine ⟨B1, E1, q1, q2, fun x hx => ?_⟩
              rw [uI_t (by decide), uI_t (by decide), (f3 x hx).1 e]
              exact q3 x hx
            · have e0 : H.length = 0 := by omega
              have eH : H = [] := List.length_eq_zero_iff.mp e0
              subst eH
              refine ⟨B, E, hG, hO, fun x hx => ?_⟩
              rw [uI_t (by decide), uI_t (by decide)]
              exact (f3 x hx).2 rfl
          · intro t k hk
            rw [uI_ne (fun q => hk (by cases q; exact ⟨rfl, Or.inl rfl⟩))]
            exact f1 t k hk
          · rw [uI_j (by decide), f2]
          · rw [uI_j (by decide), f2]
          · intro k hk
            exact uJ_k hk
    | succ n ih =>
      intro p I1 hp f1 f2 f3
      have he1 : I1 16 (2 * m + 1) 2 = nI ev := by rw [f1 16 _ (by omega)]; exact he
      refine Sat.of k_X3_write [9, 54] 60 ?_
      refine ⟨0, 117, hd, Nat.le_refl _, (c_pairsOf I1 J ev (by omega) 0).to ?_ rfl ?_⟩
      · show [vi (I1 16 (2 * m + 1) 2)] = _
        rw [he1]
      · rintro r σ ⟨rfl, rfl⟩
        refine ⟨fun c => absurd ((nI_leI (a := PRb 0 ev) (by omega) (by omega)).mp c) (by omega), fun c => ⟨vp_in_nI (by omega) (by omega), ?_⟩⟩
        obtain ⟨q1, q2⟩ := hc p (by omega)
        refine (ih (p + 1) I1 (by omega) f1 f2 f3).to ?_ rfl
        have el := encN_lt (l := l) (p := p) (fun q hq => by have := (hc q (by omega)).2; omega)
        have e16 : 16 ^ p = 2 ^ (4 * p) := by rw [Nat.pow_mul]
        have e1 : lN (encN l p) ||| ((I1 13 m (nI p).toNatClampNeg).toInt64 <<< ((4 * nI p : Int32).toInt64 &&& 63)) = lN (encN l (p + 1)) := by
          have hm : l p * 2 ^ (4 * p) < 2 ^ 64 := by
            have : 2 ^ (4 * p) ≤ 2 ^ 36 := Nat.pow_le_pow_right (by decide) (by omega)
            have h3 : l p * 2 ^ (4 * p) ≤ 12 * 2 ^ 36 := Nat.mul_le_mul (by omega) this
            exact Nat.lt_of_le_of_lt h3 (by decide)
          rw [nI_clamp (by omega), f1 13 m (by omega), q1, nI_l (by omega), show (4 : Int32) = nI 4 from rfl, pk_mul, nI_l (by omega), lx_shl (by omega) hm, lx_or]
          simp only [encN]
          rw [e16] at el ⊢
          rw [Nat.or_comm, Nat.mul_comm (l p), ← Nat.two_pow_add_eq_or_of_lt el, Nat.add_comm]
        rw [← nI_1, ← e1]
        rfl
  have loop1 : ∀ (n x : Nat) (I1 : SI), x + n = 5 → H.length = 0 → frW m I I1 → I1 8 m = I 8 m → (∀ z, z < x → I1 15 m (2 * z) = I 11 m z ∧ I1 15 m (2 * z + 1) = I 12 m z) → Sat none MX3_write d 117 (fun r σ => r = none ∧ ∃ I1 J1, σ = S0 I1 J1 ∧ LST I1 J1 m ev (H ++ [l]) ∧ frW m I I1 ∧ I1 8 m 7 = I 8 m 7 ∧ I1 8 m 8 = I 8 m 8 ∧ ∀ k, k ≠ m → J1 k = J k) 9 [some (vr 8 m), some (vi (nI x)), none, none] [] (S0 I1 J) := by
    intro n
    induction n with
    | zero =>
      intro x I1 hx e0 f1 f2 f3
      refine Sat.of k_X3_write [9, 54] 60 ?_
      refine ⟨fun c => loop2 (PRb 0 ev) 0 I1 (by omega) f1 f2 (fun z hz => ⟨fun e => absurd e (by omega), fun _ => ?_⟩), fun c => absurd (nI_le (a := 5) (b := x) (by omega) (by omega)) c⟩
      obtain ⟨q1, q2, _⟩ := hB z hz
      rw [(f3 z (by omega)).1, (f3 z (by omega)).2]
      exact ⟨q1, q2⟩
    | succ n ih =>
      intro x I1 hx e0 f1 f2 f3
      refine Sat.of k_X3_write [9, 54] 60 ?_
      have ex : (nI x).toNatClampNeg = x := nI_clamp (by omega)
      have e2 : (2 * nI x : Int32) = nI (2 * x) := pk_mul 2 x
      have e3 : (2 * nI x + 1 : Int32) = nI (2 * x + 1) := by rw [e2, nI_1]
      refine ⟨fun c => absurd ((nI_leI (a := 5) (by omega) (by omega)).mp c) (by omega), fun c => ⟨vp_in_nI (by omega) (by decide), ?_, vp_in_nI (by omega) (by decide), ?_, ?_⟩⟩
      · show vp_in (2 * nI x : Int32) 10
        rw [e2]
        exact vp_in_nI (by omega) (by decide)
      · show vp_in (2 * nI x + 1 : Int32) 10
        rw [e3]
        exact vp_in_nI (by omega) (by decide)
      · refine (ih (x + 1) (uI (uI I1 15 m (2 * x) (I 11 m x)) 15 m (2 * x + 1) (I 12 m x)) (by omega) e0 ?_ ?_ ?_).to (by rw [← nI_1]; rfl) ?_
        · intro t k hk
          rw [uI_ne (fun q => hk (by cases q; exact ⟨rfl, Or.inr rfl⟩)), uI_ne (fun q => hk (by cases q; exact ⟨rfl, Or.inr rfl⟩))]
          exact f1 t k hk
        · rw [uI_tt (by decide), uI_tt (by decide)]
          exact f2
        · intro z hz
          by_cases e : z = x
          · subst e
            rw [uI_j (by omega), uI_at, uI_at]
            exact ⟨rfl, rfl⟩
          · rw [uI_j (by omega), uI_j (by omega), uI_j (by omega), uI_j (by omega)]
            exact f3 z (by omega)
        · show (uI (uI I1 15 m (2 * nI x : Int32).toNatClampNeg (I1 11 m (nI x).toNatClampNeg)) 15 m (2 * nI x + 1 : Int32).toNatClampNeg (uI I1 15 m (2 * nI x : Int32).toNatClampNeg (I1 11 m (nI x).toNatClampNeg) 12 m (nI x).toNatClampNeg), J, 117, aT) = _
          rw [e3, e2, ex, nI_clamp (by omega), nI_clamp (by omega), uI_t (by decide), f1 11 m (by omega), f1 12 m (by omega)]
  refine Sat.of k_X3_write [9, 54] 60 ?_
  refine ⟨fun c => loop2 (PRb 0 ev) 0 I (by omega) (fun _ _ _ => rfl) rfl (fun x hx => ⟨fun _ => rfl, fun e => ?_⟩), fun c => loop1 5 0 I (by omega) ?_ (fun _ _ _ => rfl) rfl (fun z hz => absurd hz (by omega))⟩
  · have c : ¬ I 8 m 6 = 0 := c
    rw [g1, e] at c
    exact absurd rfl c
  · have c : I 8 m 6 = 0 := c
    rw [g1] at c
    exact (nI_eq (b := 0) (by omega) (by decide)).mp c
