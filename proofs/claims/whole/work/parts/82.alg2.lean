/-! How the algebra is made -/
theorem c64_t : ∀ r, r < 13 → ∀ s, s < 13 → nthD c64 (13 * r + s) 0 = nI (TT r s) := by decide +kernel
theorem sh12 : ∀ s, s < 13 → (1 : Int32) <<< ((12 - nI s) &&& 31) = nI (2 ^ (12 - s)) := by decide +kernel
theorem need_0 : ∀ j, j < 30 → need 0 j = true → j = 0 ∨ j = 1 := by decide +kernel
/-- the tables up to the row r, its first s relations -/
def ALP (I : SI) (r s : Nat) : Prop := (∀ q, q < r → ∀ a, a < 128 → I 1 0 (128 * q + a) = nI (lowF q a)) ∧ (∀ q, q < r → ∀ a, a < 64 → I 2 0 (64 * q + a) = nI (highF q a)) ∧ (∀ a, a < 2 ^ (min s 7) → I 1 0 (128 * r + a) = nI (lowF r a)) ∧ (∀ a, a < 2 ^ (s - 7) → I 2 0 (64 * r + a) = nI (highF r a)) ∧ (∀ x, 128 * r + 2 ^ (min s 7) ≤ x → I 1 0 x = 0) ∧ ∀ x, 64 * r + 2 ^ (s - 7) ≤ x → I 2 0 x = 0
theorem pw_le {a b : Nat} (h : a ≤ b) : 2 ^ a ≤ 2 ^ b := Nat.pow_le_pow_right (by decide) h
set_option maxRecDepth 10000 in
theorem i_alg (I : SI) (J : SJ) (A : SA) (d : Nat) (hd : 0 < d) : Tri d YX0_init 49 [vr 0 0] (I, J, 47, A) (fun r σ => r = none ∧ ∃ I1 A1, σ = (I1, J, 49, A1) ∧ ALG I1 ∧ FO A1 0 0 ∧ frX 0 2 0 0 I I1 A A1) := by
  refine Tri.of (M := MX0_init) k_X0_init ⟨Nat.le_of_ble_eq_true rfl, Nat.le_of_ble_eq_true rfl⟩ (Nat.le_of_ble_eq_true rfl) ?_
  generalize hQ : (fun (r : Option AV) (σ : ST) => r = none ∧ ∃ I1 A1, σ = (I1, J, 49, A1) ∧ ALG I1 ∧ FO A1 0 0 ∧ frX 0 2 0 0 I I1 A A1) = Q
  have fin : ∀ (I1 : SI), ALP I1 14 0 → (∀ a b, ¬ (1 ≤ a ∧ a ≤ 2 ∧ b = 0) → I1 a b = I a b) → Q none (I1, J, 49, uA (uA A 0 0 0) 0 0 1) := fun I1 h1 h2 => by
    rw [← hQ]
    refine ⟨rfl, I1, _, rfl, ⟨h1.1, h1.2.1⟩, FO.of (by decide) (fun j hj hq => ?_), fun a b q => ⟨h2 a b (by omega), by rw [uA_n2 (by omega), uA_n2 (by omega)]⟩⟩
    rcases need_0 j hj hq with z | z
    · subst z
      exact uA_up uA_at
    · subst z
      exact uA_at
  have outer : ∀ (m r : Nat) (I1 : SI), r + m = 14 → ALP I1 r 0 → (∀ a b, ¬ (1 ≤ a ∧ a ≤ 2 ∧ b = 0) → I1 a b = I a b) → Sat none MX0_init d 49 Q 24 [some (vr 0 0), some (vi (nI r)), none, none] [] (I1, J, 49, uA (uA A 0 0 0) 0 0 1) := by
    intro m
    induction m with
    | zero =>
      intro r I1 hr h1 h2
      have e : r = 14 := by omega
      subst e
      refine Sat.of k_X0_init [24, 32] 60 ?_
      exact ⟨fun _ => ⟨rfl, rfl, fin I1 h1 h2⟩, fun c => absurd ((nI_ltI (a := 13) (b := 14) (by decide) (by decide)).mpr (by decide)) c⟩
    | succ m ih =>
      intro r I1 hr h1 h2
      have inner : ∀ (z s : Nat) (I2 : SI), s + z = 13 → ALP I2 r s → (∀ a b, ¬ (1 ≤ a ∧ a ≤ 2 ∧ b = 0) → I2 a b = I a b) → Sat none MX0_init d 49 Q 32 [some (vr 0 0), some (vi (nI r)), some (vi (nI s)), none] [] (I2, J, 49, uA (uA A 0 0 0) 0 0 1) := by
        intro z
        induction z with
        | zero =>
          intro s I2 hs g1 g2
          have e : s = 13 := by omega
          subst e
          obtain ⟨a1, a2, a3, a4, a5, a6⟩ := g1
          refine Sat.of k_X0_init [24, 32] 60 ?_
          refine ⟨fun _ => (ih (r + 1) I2 (by omega) ⟨fun q hq a ha => ?_, fun q hq a ha => ?_, fun a ha => ?_, fun a ha => ?_, fun x hx => ?_, fun x hx => ?_⟩ g2).lw ⟨rfl, by rw [← nI_1 r], trivial⟩ rfl, fun c => absurd (nI_le (a := 13) (b := 13) (by omega) (by omega)) c⟩
          · by_cases e : q = r
            · rw [e]
              exact a3 a ha
            · exact a1 q (by omega) a ha
          · by_cases e : q = r
            · rw [e]
              exact a4 a ha
            · exact a2 q (by omega) a ha
          · have ha : a < 1 := ha
            rw [show a = 0 by omega, low_0, a5 _ (by show 128 * r + 128 ≤ _; omega)]
            rfl
          · have ha : a < 1 := ha
            rw [show a = 0 by omega, high_0, a6 _ (by show 64 * r + 64 ≤ _; omega)]
            rfl
          · have hx : 128 * (r + 1) + 1 ≤ x := hx
            exact a5 x (by show 128 * r + 128 ≤ _; omega)
          · have hx : 64 * (r + 1) + 1 ≤ x := hx
            exact a6 x (by show 64 * r + 64 ≤ _; omega)
        | succ z ihz =>
          intro s I2 hs g1 g2
          obtain ⟨a1, a2, a3, a4, a5, a6⟩ := g1
          have s63 : ∀ v, v = T2 r s → Sat none MX0_init d 49 Q 63 [some (vr 0 0), some (vi (nI r)), some (vi (nI s)), none] [vi (nI v)] (I2, J, 49, uA (uA A 0 0 0) 0 0 1) := fun v hv => by
            subst hv
            refine Sat.of k_X0_init [24, 32] 60 ?_
            refine ⟨fun c => ?_, fun c => ?_⟩
            · have c : nI 7 ≤ nI s := c
              rw [nI_leI (by decide) (by omega)] at c
              have es : nI r * 64 = nI (64 * r) := by rw [show (64 : Int32) = nI 64 from rfl, pk_mul, Nat.mul_comm]
              have eb : nI s - 7 = nI (s - 7) := by rw [show (7 : Int32) = nI 7 from rfl, pk_sub c]
              have hp : 2 ^ (s - 7) ≤ 2 ^ 5 := pw_le (by omega)
              refine ⟨0, 49, hd, Nat.le_refl _, (i_addRel2 I2 J _ 49 (64 * r) (s - 7) (T2 r s) (highF r) (by decide) (by omega) (by omega) a4 0).to ?_ rfl ?_⟩
              · show [vr 2 0, vi (nI r * 64), vi (nI s - 7), vi (nI (T2 r s))] = _
                rw [es, eb]
              · rintro v σ ⟨rfl, I3, rfl, b1, b2, b3⟩
                refine (ihz (s + 1) I3 (by omega) ⟨fun q hq a ha => ?_, fun q hq a ha => ?_, fun a ha => ?_, fun a ha => ?_, fun x hx => ?_, fun x hx => ?_⟩ (fun a b q => by rw [b3 a b (by omega)]; exact g2 a b q)).lw ⟨rfl, rfl, by rw [← nI_1 s], trivial⟩ rfl
                · rw [b3 1 0 (by omega)]
                  exact a1 q hq a ha
                · rw [b2 _ (by omega)]
                  exact a2 q hq a ha
                · rw [b3 1 0 (by omega)]
                  exact a3 a (by rw [show min s 7 = min (s + 1) 7 by omega]; exact ha)
                · rw [show s + 1 - 7 = (s - 7) + 1 by omega, Nat.pow_succ] at ha
                  by_cases z1 : a < 2 ^ (s - 7)
                  · rw [b2 _ (by omega)]
                    exact a4 a z1
                  · have := b1 (a - 2 ^ (s - 7)) (by omega)
                    rw [show 64 * r + 2 ^ (s - 7) + (a - 2 ^ (s - 7)) = 64 * r + a by omega] at this
                    have hu := high_up (r := r) (s := s - 7) (x := a - 2 ^ (s - 7)) (by omega) (by omega)
                    rw [show 2 ^ (s - 7) + (a - 2 ^ (s - 7)) = a by omega, show s - 7 + 7 = s by omega] at hu
                    rw [this, hu]
                · rw [b3 1 0 (by omega)]
                  exact a5 x (by rw [show min s 7 = min (s + 1) 7 by omega]; exact hx)
                · rw [show s + 1 - 7 = (s - 7) + 1 by omega, Nat.pow_succ] at hx
                  rw [b2 _ (by omega)]
                  exact a6 x (by omega)
            · have c : ¬ nI 7 ≤ nI s := c
              rw [nI_leI (by decide) (by omega)] at c
              have es : nI r * 128 = nI (128 * r) := by rw [show (128 : Int32) = nI 128 from rfl, pk_mul, Nat.mul_comm]
              have hp : 2 ^ s ≤ 2 ^ 6 := pw_le (by omega)
              have em : min s 7 = s := by omega
              have em1 : min (s + 1) 7 = s + 1 := by omega
              rw [em] at a3 a5
              refine ⟨0, 49, hd, Nat.le_refl _, (i_addRel1 I2 J _ 49 (128 * r) s (T2 r s) (lowF r) (by decide) (by omega) (by omega) a3 0).to ?_ rfl ?_⟩
              · show [vr 1 0, vi (nI r * 128), vi (nI s), vi (nI (T2 r s))] = _
                rw [es]
              · rintro v σ ⟨rfl, I3, rfl, b1, b2, b3⟩
                refine (ihz (s + 1) I3 (by omega) ⟨fun q hq a ha => ?_, fun q hq a ha => ?_, fun a ha => ?_, fun a ha => ?_, fun x hx => ?_, fun x hx => ?_⟩ (fun a b q => by rw [b3 a b (by omega)]; exact g2 a b q)).lw ⟨rfl, rfl, by rw [← nI_1 s], trivial⟩ rfl
                · rw [b2 _ (by omega)]
                  exact a1 q hq a ha
                · rw [b3 2 0 (by omega)]
                  exact a2 q hq a ha
                · rw [em1, Nat.pow_succ] at ha
                  by_cases z1 : a < 2 ^ s
                  · rw [b2 _ (by omega)]
                    exact a3 a z1
                  · have := b1 (a - 2 ^ s) (by omega)
                    rw [show 128 * r + 2 ^ s + (a - 2 ^ s) = 128 * r + a by omega] at this
                    have hu := low_up (r := r) (s := s) (x := a - 2 ^ s) (by omega) (by omega)
                    rw [show 2 ^ s + (a - 2 ^ s) = a by omega] at hu
                    rw [this, hu]
                · rw [b3 2 0 (by omega)]
                  exact a4 a (by rw [show s - 7 = s + 1 - 7 by omega]; exact ha)
                · rw [em1, Nat.pow_succ] at hx
                  rw [b2 _ (by omega)]
                  exact a5 x (by omega)
                · rw [b3 2 0 (by omega)]
                  exact a6 x (by rw [show s - 7 = s + 1 - 7 by omega]; exact hx)
          refine Sat.of k_X0_init [24, 32, 63] 60 ?_
          refine ⟨fun c => absurd ((nI_leI (a := 13) (by omega) (by omega)).mp c) (by omega), fun _ => ⟨fun c => ?_, fun c => ?_⟩⟩
          · have c : ¬ nI r = nI 13 := c
            have hr13 : r < 13 := by
              rcases Nat.lt_or_ge r 13 with q | q
              · exact q
              · exact absurd (by rw [show r = 13 by omega]) c
            have ix : nI r * 13 + nI s = nI (13 * r + s) := by rw [show (13 : Int32) = nI 13 from rfl, pk_mul, nI_add, Nat.mul_comm]
            refine ⟨?_, ?_⟩
            · show vp_in (nI r * 13 + nI s) 169
              rw [ix]
              exact vp_in_nI (by omega) (by decide)
            · show Sat none MX0_init d 49 Q 63 _ [vi (nthD c64 (nI r * 13 + nI s).toNatClampNeg 0)] _
              rw [ix, nI_clamp (by omega), c64_t r hr13 s (by omega)]
              exact s63 _ (by unfold T2; rw [if_neg (by omega)])
          · have c : nI r = nI 13 := c
            rw [nI_eq (by omega) (by decide)] at c
            show Sat none MX0_init d 49 Q 63 _ [vi ((1 : Int32) <<< ((12 - nI s) &&& 31))] _
            rw [sh12 s (by omega)]
            exact s63 _ (by unfold T2; rw [if_pos c])
      refine Sat.of k_X0_init [32] 60 ?_
      refine ⟨fun c => ?_, fun _ => (inner 13 0 I1 (by omega) h1 h2).to rfl rfl⟩
      have c : nI 13 < nI r := c
      rw [nI_ltI (by decide) (by omega)] at c
      omega
  refine Sat.of k_X0_init [24] 60 ?_
  refine ⟨hd, 1, 0, 1792, rfl, rfl, rfl, by omega, ⟨rfl, rfl⟩, 2, 0, 896, rfl, rfl, rfl, by omega, ⟨rfl, rfl⟩, (outer 14 0 (zI (zI I 1 0) 2 0) (by omega) ⟨fun q hq => absurd hq (by omega), fun q hq => absurd hq (by omega), fun a ha => ?_, fun a ha => ?_, fun x _ => ?_, fun x _ => ?_⟩ (fun a b q => by rw [zI_ne2 (by omega), zI_ne2 (by omega)])).to rfl rfl⟩
  · have ha : a < 1 := ha
    rw [show a = 0 by omega, low_0, zI_ne2 (by omega), zI_at]
    rfl
  · have ha : a < 1 := ha
    rw [show a = 0 by omega, high_0, zI_at]
    rfl
  · rw [zI_ne2 (by omega), zI_at]
  · exact zI_at
