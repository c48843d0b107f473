/-! Net: close -/
def loT (k : Nat) : Nat := nthD [0, 0, 1, 0, 1, 2, 0, 1, 2, 3] k 0
def hiT (k : Nat) : Nat := nthD [1, 2, 2, 3, 3, 3, 4, 4, 4, 4] k 0
theorem c60_t : ∀ k, k < 10 → nthD c60 k 0 = nI (loT k) := by decide +kernel
theorem c61_t : ∀ k, k < 10 → nthD c61 k 0 = nI (hiT k) := by decide +kernel
theorem lohi_t : ∀ k, k < 10 → loT k < hiT k ∧ hiT k < 5 ∧ PRb (loT k) (hiT k) = k := by decide +kernel
theorem prU_t {k : Nat} (h : k < 10) : prU (loT k) (hiT k) = k := by
  unfold prU
  rw [if_pos (lohi_t k h).1]
  exact (lohi_t k h).2.2
/-- the pair k taken away -/
def clr (w k : Nat) : Nat := w &&& (1023 ^^^ 2 ^ k)
theorem clr_lt {w k : Nat} (h : w < 1024) : clr w k < 1024 := Nat.lt_of_le_of_lt Nat.and_le_left h
theorem clr_t : ∀ k, k < 10 → ∀ i, i < 10 → (1023 ^^^ 2 ^ k).testBit i = !decide (i = k) := by decide +kernel
theorem clr_bit {w k i : Nat} (hk : k < 10) (hi : i < 10) : (clr w k).testBit i = (w.testBit i && !decide (i = k)) := by
  unfold clr
  rw [Nat.testBit_and, clr_t k hk i hi]
theorem clr_n : ∀ k, k < 10 → nI 1023 &&& ((1 : Int32) <<< (nI k &&& 31) ^^^ (-1)) = nI (1023 ^^^ 2 ^ k) := by decide +kernel
theorem and1023 {w : Nat} (h : w < 1024) : w &&& 1023 = w := by
  rw [show (1023 : Nat) = 2 ^ 10 - 1 from rfl, Nat.and_two_pow_sub_one_eq_mod, Nat.mod_eq_of_lt h]
theorem clr_x {w k : Nat} (hw : w < 1024) (hk : k < 10) : nI w &&& ((1 : Int32) <<< (nI k &&& 31) ^^^ (-1)) = nI (clr w k) := by
  unfold clr
  rw [← nx_an, ← clr_n k hk]
  conv => lhs; rw [← and1023 hw, ← nx_an]
  rw [Int32.and_assoc]
def INV (ev : Nat) (N : NF) (w : Nat) : Prop := ∀ a b c, a < ev → b < ev → c < ev → a ≠ b → b ≠ c → a ≠ c → CT N a b c ∨ w.testBit (prU a b) = true ∨ w.testBit (prU b c) = true
theorem INV.all {ev : Nat} {N : NF} (h5 : ev ≤ 5) : INV ev N 1023 := fun a b c ha hb hc hab hbc hac => Or.inr (Or.inl (by
  rw [show (1023 : Nat) = 2 ^ 10 - 1 from rfl, Nat.testBit_two_pow_sub_one]
  simp [prU_lt (a := a) (b := b) (by omega) (by omega) hab]))
theorem INV.step {ev : Nat} {N N1 : NF} {w ch x y : Nat} (h : INV ev N w) (h5 : ev ≤ 5) (hx : x < 5) (hy : y < 5) (hxy : x ≠ y) (hs : SPR ev x y N N1 ch false ev) : INV ev N1 (clr w (prU x y) ||| ch) := fun a b c ha hb hc hab hbc hac => by
  obtain ⟨⟨r1, r2, r3, r4, r5, r6⟩, _, _, q⟩ := hs
  have hp := prU_lt hx hy hxy
  by_cases e1 : a = x ∧ b = y
  · obtain ⟨rfl, rfl⟩ := e1
    rcases (q rfl ha hb c hc (fun e => hac e.symm) (fun e => hbc e.symm)).1 with g | g
    · exact Or.inl g
    · exact Or.inr (Or.inr (or_bit_r g))
  by_cases e2 : a = y ∧ b = x
  · obtain ⟨rfl, rfl⟩ := e2
    rcases (q rfl hb ha c hc (fun e => hbc e.symm) (fun e => hac e.symm)).2 with g | g
    · exact Or.inl g
    · exact Or.inr (Or.inr (or_bit_r g))
  by_cases e3 : b = x ∧ c = y
  · obtain ⟨rfl, rfl⟩ := e3
    rcases (q rfl hb hc a ha hab hac).2 with g | g
    · exact Or.inl (g.sym r1 hc hb ha)
    · exact Or.inr (Or.inl (or_bit_r (by rw [prU_comm]; exact g)))
  by_cases e4 : b = y ∧ c = x
  · obtain ⟨rfl, rfl⟩ := e4
    rcases (q rfl hc hb a ha hac hab).1 with g | g
    · exact Or.inl (g.sym r1 hc hb ha)
    · exact Or.inr (Or.inl (or_bit_r (by rw [prU_comm]; exact g)))
  have n1 : prU a b ≠ prU x y := fun e => by
    rcases prU_inj (by omega) (by omega) hx hy hab hxy e with g | g
    · exact e1 g
    · exact e2 g
  have n2 : prU b c ≠ prU x y := fun e => by
    rcases prU_inj (by omega) (by omega) hx hy hbc hxy e with g | g
    · exact e3 g
    · exact e4 g
  have l1 := prU_lt (a := a) (b := b) (by omega) (by omega) hab
  have l2 := prU_lt (a := b) (b := c) (by omega) (by omega) hbc
  rcases h a b c ha hb hc hab hbc hac with g | g | g
  · by_cases f1 : N1 a b = N a b
    · by_cases f2 : N1 b c = N b c
      · refine Or.inl ?_
        unfold CT at g ⊢
        rw [f1, f2]
        exact (r2 a c ha hc).tr g
      · exact Or.inr (Or.inr (or_bit_r (r5 b c hb hc hbc f2)))
    · exact Or.inr (Or.inl (or_bit_r (r5 a b ha hb hab f1)))
  · exact Or.inr (Or.inl (or_bit_l (by rw [clr_bit hp l1, g, decide_eq_false n1]; rfl)))
  · exact Or.inr (Or.inr (or_bit_l (by rw [clr_bit hp l2, g, decide_eq_false n2]; rfl)))
theorem INV.pc {ev : Nat} {N : NF} (h : INV ev N 0) (hs : SYM ev N) (hn : NZ ev N) : PC ev N := fun a b c ha hb hc => by
  by_cases e1 : a = b
  · subst e1
    rw [hs.2 a ha, one_cmps (hs.1 a c ha hc).2]
    exact Sub.rf
  by_cases e2 : b = c
  · subst e2
    rw [hs.2 b hb, cmps_one (hs.1 a b ha hb).2]
    exact Sub.rf
  by_cases e3 : a = c
  · subst e3
    rw [hs.2 a ha, (hs.1 a b ha hb).1]
    exact self_cmps (hs.1 a b ha hb).2 (hn a b ha hb)
  rcases h a b c ha hb hc e1 e2 e3 with g | g | g
  · exact g
  · simp at g
  · simp at g
/-- N closed is N1, or nothing at all -/
def IsCl (ev : Nat) (N N1 : NF) (bar : Bool) : Prop := (bar = false ∧ SYM ev N1 ∧ NZ ev N1 ∧ LE ev N1 N ∧ PC ev N1 ∧ ∀ M, PC ev M → LE ev M N → LE ev M N1) ∨ (bar = true ∧ (∀ a b, a < ev → b < ev → N1 a b = 0) ∧ ∀ M, PC ev M → LE ev M N → ¬ NZ ev M)
theorem IsCl.uni {ev : Nat} {N N1 N2 : NF} {b1 b2 : Bool} (h : IsCl ev N N1 b1) (h1 : IsCl ev N N2 b2) : b1 = b2 ∧ ∀ x y, x < ev → y < ev → N1 x y = N2 x y := by
  rcases h with ⟨rfl, s1, n1, l1, p1, g1⟩ | ⟨rfl, z1, g1⟩ <;> rcases h1 with ⟨rfl, s2, n2, l2, p2, g2⟩ | ⟨rfl, z2, g2⟩
  · exact ⟨rfl, fun x y hx hy => Sub.antisymm (g2 N1 p1 l1 x y hx hy) (g1 N2 p2 l2 x y hx hy)⟩
  · exact absurd n1 (g2 N1 p1 l1)
  · exact absurd n2 (g1 N2 p2 l2)
  · exact ⟨rfl, fun x y hx hy => by rw [z1 x y hx hy, z2 x y hx hy]⟩
theorem LE.zero {ev : Nat} {M N : NF} (h : LE ev M N) (hz : ZERO ev N) : ¬ NZ ev M := fun hn => by
  obtain ⟨a, b, ha, hb, e⟩ := hz
  exact hn a b ha hb (Sub.zero (by rw [← e]; exact h a b ha hb))
theorem lt_bit10 {w : Nat} (hw : w < 1024) (h : ∀ k, k < 10 → w.testBit k = false) : w = 0 := Nat.eq_of_testBit_eq fun c => by
  rw [Nat.zero_testBit]
  rcases Nat.lt_or_ge c 10 with h1 | h1
  · exact h c h1
  · exact Nat.testBit_lt_two_pow (Nat.lt_of_lt_of_le (show w < 2 ^ 10 from hw) (Nat.pow_le_pow_right (by decide) h1))
set_option maxRecDepth 10000 in
theorem c_close (I : SI) (J : SJ) (n ev p : Nat) (N : NF) (bar : Bool) (hA : ALG I) (h : NT I n ev N bar) (hs : SYM ev N) (hn : bar = false → NZ ev N) (hz : bar = true → ZERO ev N) (hp : p < 1024) (hi : bar = false → INV ev N p) (d : Nat) (hd : 2 < d) : Tri d YX4_close 117 [vr 16 n, vi (nI p)] (S0 I J) (fun r σ => r = none ∧ ∃ N1 b1 I1, σ = S0 I1 J ∧ NT I1 n ev N1 b1 ∧ frN n I I1 ∧ IsCl ev N N1 b1) := by
  refine Tri.of (M := MX4_close) k_X4_close ⟨Nat.le_refl _, Nat.le_refl _⟩ (Nat.le_of_ble_eq_true rfl) ?_
  have h3 := h.2.2.1
  have h4 := h.2.2.2.1
  have loop : ∀ (m t j c w : Nat) (I1 : SI) (N1 : NF) (b1 : Bool) (v : Option AV), t + m = 2000 → w < 1024 → NT I1 n ev N1 b1 → frN n I I1 → SYM ev N1 → LE ev N1 N → (∀ M, PC ev M → LE ev M N → LE ev M N1) → (b1 = false → NZ ev N1 ∧ INV ev N1 w) → (b1 = true → ZERO ev N1) → phi ev N1 + c ≤ 130 → t ≤ 10 * c + j → j ≤ 10 → j ≤ t → (∀ i, 1 ≤ i → i ≤ j → w.testBit ((t - i) % 10) = false) → Sat none MX4_close d 117 (fun r σ => r = none ∧ ∃ N1 b1 I1, σ = S0 I1 J ∧ NT I1 n ev N1 b1 ∧ frN n I I1 ∧ IsCl ev N N1 b1) 4 [some (vr 16 n), some (vi (nI p)), some (vi (nI w)), some (vi (nI t)), v] [] (S0 I1 J) := by
    intro m
    induction m with
    | zero =>
      intro t j c w I1 N1 b1 v ht
      intros
      omega
    | succ m ih =>
      intro t j c w I1 N1 b1 v ht hw g1 g2 g3 g4 g5 g6 g7 k1 k2 k3 k4 k5
      have fin : b1 = true → Tri 0 YX4_empty 117 [vr 16 n] (S0 I1 J) (fun r σ => r = none ∧ ∃ I2, σ = S0 I2 J ∧ NT I2 n ev (fun _ _ => 0) true ∧ frN n I I2 ∧ IsCl ev N (fun _ _ => 0) true) := fun e =>
        (c_empty I1 J n ev g1.1 h3 h4 0).mono (by
          rintro r σ ⟨rfl, I2, rfl, q1, _, q3⟩
          exact ⟨rfl, I2, rfl, q1, g2.tr q3, Or.inr ⟨rfl, fun _ _ _ _ => rfl, fun M hM hMN => (g5 M hM hMN).zero (g7 e)⟩⟩)
      have done : b1 = false → w = 0 → IsCl ev N N1 b1 := fun e e1 => by
        subst e; subst e1
        exact Or.inl ⟨rfl, g3, (g6 rfl).1, g4, (g6 rfl).2.pc g3 (g6 rfl).1, g5⟩
      refine Sat.of k_X4_close [4] 60 ?_
      refine ⟨fun c1 => ?_, fun c1 => ⟨fun c2 => ⟨fun c3 => ⟨rfl, rfl, rfl, ?_⟩, fun c3 => ⟨0, 117, by omega, Nat.le_refl _, (fin ?_).mono ?_⟩⟩, fun c2 => ⟨fun c3 => ⟨fun c4 => ?_, fun c4 => ⟨0, 117, by omega, Nat.le_refl _, (fin ?_).mono ?_⟩⟩, fun c3 => ⟨by decide, ?_⟩⟩⟩⟩
      · have c1 : nI 2000 ≤ nI t := c1
        rw [nI_leI (by decide) (by omega)] at c1
        omega
      · have c2 : nI w = nI 0 := c2
        have e := (nI_eq (by omega) (by decide)).mp c2
        have c3 : I1 16 n 3 = 0 := c3
        rw [g1.2.1] at c3
        exact ⟨N1, b1, I1, rfl, g1, g2, done (bi_f c3) e⟩
      · have c3 : ¬ I1 16 n 3 = 0 := c3
        rw [g1.2.1] at c3
        exact bi_t c3
      · rintro r σ ⟨rfl, I2, rfl, q1, q2, q3⟩
        exact ⟨rfl, rfl, rfl, _, _, I2, rfl, q1, q2, q3⟩
      · exact absurd c4 c3
      · have c4 : ¬ I1 16 n 3 = 0 := c4
        rw [g1.2.1] at c4
        exact bi_t c4
      · rintro r σ ⟨rfl, I2, rfl, q1, q2, q3⟩
        exact ⟨rfl, rfl, rfl, _, _, I2, rfl, q1, q2, q3⟩
      · have c3 : I1 16 n 3 = 0 := c3
        rw [g1.2.1] at c3
        have hb := bi_f c3
        subst hb
        obtain ⟨hnz, hinv⟩ := g6 rfl
        have hw0 : w ≠ 0 := fun e => c2 (by rw [e]; rfl)
        have hj : j ≤ 9 := by
          refine Nat.le_of_lt_succ (Nat.lt_of_le_of_ne k3 (fun e => hw0 (lt_bit10 hw (fun k hk => ?_))))
          have := k5 ((t - 1 - k) % 10 + 1) (by omega) (by omega)
          rw [show (t - ((t - 1 - k) % 10 + 1)) % 10 = k by omega] at this
          exact this
        have em : nI t - nI t / 10 * 10 = nI (t % 10) := pk_rem (d := 10) (by omega) (by decide) (by decide)
        have hpl : t % 10 < 10 := Nat.mod_lt _ (by decide)
        have eb : (nI w >>> (nI (t % 10) &&& 31)) &&& 1 = bi (w.testBit (t % 10)) := nx_bit (by omega) (by omega)
        obtain ⟨t1, t2, t3⟩ := lohi_t (t % 10) hpl
        refine ⟨fun c4 => ?_, fun c4 => ?_⟩
        · have c4 : (nI w >>> ((nI t - nI t / 10 * 10) &&& 31)) &&& 1 = 0 := c4
          rw [em, eb] at c4
          refine (ih (t + 1) (j + 1) c w I1 N1 false _ (by omega) hw g1 g2 g3 g4 g5 g6 g7 k1 (by omega) (by omega) (by omega) (fun i hi1 hi2 => ?_)).to (by rw [← nI_1]; rfl) rfl
          by_cases ei : i = 1
          · subst ei
            exact bi_f c4
          · rw [show t + 1 - i = t - (i - 1) by omega]
            exact k5 (i - 1) (by omega) (by omega)
        · have hlt := lohi_t (t % 10) hpl
          have ei : (nI t - nI t / 10 * 10).toNatClampNeg = t % 10 := by rw [em, nI_clamp (by omega)]
          have vin : vp_in (nI t - nI t / 10 * 10) 10 := by rw [em]; exact vp_in_nI (by omega) (by decide)
          refine ⟨vin, vin, 2, 117, hd, Nat.le_refl _, (c_spread I1 J n ev (loT (t % 10)) (hiT (t % 10)) N1 (hA.fr g2) g1 g3 hnz (by omega) (by omega) (by omega) 2 (by omega)).to ?_ rfl ?_⟩
          · show [vr 16 n, vi (nthD c60 (nI t - nI t / 10 * 10).toNatClampNeg 0), vi (nthD c61 (nI t - nI t / 10 * 10).toNatClampNeg 0)] = _
            rw [ei, c60_t _ hpl, c61_t _ hpl]
          · rintro r σ ⟨ch, N2, b2, I2, rfl, rfl, f1, f2, f3⟩
            obtain ⟨⟨r1, r2, r3, r4, r5, r6⟩, s1, s2, s3⟩ := f3
            have hw2 : clr w (t % 10) ||| ch < 1024 := Nat.or_lt_two_pow (n := 10) (clr_lt hw) r4
            have hinv2 : b2 = false → NZ ev N2 ∧ INV ev N2 (clr w (t % 10) ||| ch) := fun e => by
              subst e
              have := hinv.step h4 (by omega) (by omega) (by omega) ⟨⟨r1, r2, r3, r4, r5, r6⟩, s1, s2, s3⟩
              rw [prU_t hpl] at this
              exact ⟨s1 rfl, this⟩
            have hph : phi ev N2 ≤ phi ev N1 := phi_le r2
            have ew : (nI w &&& ((1 : Int32) <<< ((nI t - nI t / 10 * 10) &&& 31) ^^^ (-1))) ||| nI ch = nI (clr w (t % 10) ||| ch) := by
              rw [em, clr_x hw hpl, nx_or]
            by_cases e0 : ch = 0
            · subst e0
              refine (ih (t + 1) (j + 1) c (clr w (t % 10) ||| 0) I2 N2 b2 _ (by omega) hw2 f1 (g2.tr f2) r1 (r2.tr g4) (fun M hM hMN => r3 M hM (g5 M hM hMN)) hinv2 s2 (by omega) (by omega) (by omega) (by omega) (fun i hi1 hi2 => ?_)).to (by rw [← nI_1, ← ew]; rfl) rfl
              rw [Nat.or_zero]
              by_cases ei : i = 1
              · subst ei
                rw [show t + 1 - 1 = t from rfl, clr_bit hpl hpl, decide_eq_true rfl]
                simp
              · rw [show t + 1 - i = t - (i - 1) by omega, clr_bit hpl (Nat.mod_lt _ (by decide)), k5 (i - 1) (by omega) (by omega)]
                rfl
            · have hph1 := r6 e0
              exact (ih (t + 1) 0 (c + 1) (clr w (t % 10) ||| ch) I2 N2 b2 _ (by omega) hw2 f1 (g2.tr f2) r1 (r2.tr g4) (fun M hM hMN => r3 M hM (g5 M hM hMN)) hinv2 s2 (by omega) (by omega) (by omega) (by omega) (fun i hi1 hi2 => absurd hi1 (by omega))).to (by rw [← nI_1, ← ew]; rfl) rfl
  refine Sat.of k_X4_close [4] 60 ?_
  exact loop 2000 0 0 0 p I N bar none (by omega) hp h frN.rf hs LE.rf (fun _ _ q => q) (fun e => ⟨hn e, hi e⟩) hz (phi_130 h4) (by omega) (by omega) (by omega) (fun i hi1 hi2 => absurd hi1 (by omega))
