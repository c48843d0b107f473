/-! Net: spread -/
/-- N1 is N narrowed, the pairs that changed are ch -/
def RC (ev : Nat) (N N1 : NF) (ch : Nat) : Prop := SYM ev N1 ∧ LE ev N1 N ∧ (∀ M, PC ev M → LE ev M N → LE ev M N1) ∧ ch < 1024 ∧ (∀ a b, a < ev → b < ev → a ≠ b → N1 a b ≠ N a b → ch.testBit (prU a b) = true) ∧ (ch ≠ 0 → phi ev N1 < phi ev N)
theorem RC.rf {ev : Nat} {N : NF} (h : SYM ev N) : RC ev N N 0 := ⟨h, LE.rf, fun _ _ q => q, by decide, fun _ _ _ _ _ q => absurd rfl q, fun q => absurd rfl q⟩
theorem or_bit_l {a b c : Nat} (h : a.testBit c = true) : (a ||| b).testBit c = true := by
  rw [Nat.testBit_or, h, Bool.true_or]
theorem or_bit_r {a b c : Nat} (h : b.testBit c = true) : (a ||| b).testBit c = true := by
  rw [Nat.testBit_or, h, Bool.or_true]
theorem two_bit {k : Nat} : (2 ^ k).testBit k = true := by rw [Nat.testBit_two_pow]; simp
def nrw (N : NF) (x y z : Nat) : Nat := if has N x y z = N x z then 0 else 2 ^ prU x z
theorem nrw_lt {N : NF} {x y z : Nat} (hx : x < 5) (hz : z < 5) (hxz : x ≠ z) : nrw N x y z < 1024 := by
  unfold nrw
  split
  · decide
  · exact Nat.pow_lt_pow_right (by decide) (prU_lt hx hz hxz)
theorem trn_ne {a b : Nat} (ha : a < 8192) (hb : b < 8192) (h : a ≠ b) : trn a ≠ trn b := fun e => h (by rw [← trn_trn ha, e, trn_trn hb])
theorem RC.step {ev : Nat} {N N1 : NF} {ch x y z : Nat} (h : RC ev N N1 ch) (h5 : ev ≤ 5) (hx : x < ev) (hy : y < ev) (hz : z < ev) (hxz : x ≠ z) : RC ev N (stp N1 x y z) (ch ||| nrw N1 x y z) := by
  obtain ⟨q1, q2, q3, q4, q5, q6⟩ := h
  have hle := stp_le q1 (y := y) hx hz hxz
  have hl := has_lt q1 (y := y) hx hz
  refine ⟨stp_sym q1 hx hz hxz, hle.tr q2, fun M hM hMN => stp_snd q1 hx hy hz hxz hM (q3 M hM hMN), ?_, ?_, ?_⟩
  · exact Nat.or_lt_two_pow (n := 10) q4 (nrw_lt (by omega) (by omega) hxz)
  · intro a b ha hb hab hne
    by_cases e : N1 a b = N a b
    · by_cases hh : has N1 x y z = N1 x z
      · rw [stp_id q1 hx hz hh] at hne
        exact absurd e hne
      · refine or_bit_r ?_
        unfold nrw
        rw [if_neg hh]
        by_cases e1 : a = x ∧ b = z
        · obtain ⟨rfl, rfl⟩ := e1
          exact two_bit
        · by_cases e2 : a = z ∧ b = x
          · obtain ⟨rfl, rfl⟩ := e2
            rw [prU_comm]
            exact two_bit
          · rw [stp_at e1 e2] at hne
            exact absurd e hne
    · exact or_bit_l (q5 a b ha hb hab e)
  · intro hne
    by_cases hh : has N1 x y z = N1 x z
    · unfold nrw at hne
      rw [if_pos hh, Nat.or_zero] at hne
      exact Nat.lt_of_le_of_lt (phi_le hle) (q6 hne)
    · refine Nat.lt_of_lt_of_le ?_ (phi_le q2)
      have hN := fun a b ha hb => (q1.1 a b ha hb).2
      rcases Nat.lt_or_gt_of_ne hxz with e | e
      · exact phi_lt hle hN e hz (by rw [stp_xz hxz]; exact hh)
      · refine phi_lt hle hN e hx ?_
        rw [stp_zx, (q1.1 x z hx hz).1]
        exact trn_ne hl (q1.1 x z hx hz).2 hh
theorem stp_keep {N : NF} {p q z a b : Nat} (h : a ≠ z) (h1 : b ≠ z) : stp N p q z a b = N a b := stp_at (fun e => h1 e.2) (fun e => h e.1)
theorem CT.keep {N : NF} {p q z a b c : Nat} (h : CT N a b c) (ha : a ≠ z) (hb : b ≠ z) (hc : c ≠ z) : CT (stp N p q z) a b c := by
  unfold CT at h ⊢
  rw [stp_keep ha hc, stp_keep ha hb, stp_keep hb hc]
  exact h
/-- what spreading from x to y brings for z -/
def SPz (N1 : NF) (ch x y z : Nat) : Prop := z ≠ x → z ≠ y → (CT N1 x y z ∨ ch.testBit (prU y z) = true) ∧ (CT N1 y x z ∨ ch.testBit (prU x z) = true)
def SPR (ev : Nat) (x y : Nat) (N N1 : NF) (ch : Nat) (bar : Bool) (k : Nat) : Prop := RC ev N N1 ch ∧ (bar = false → NZ ev N1) ∧ (bar = true → ZERO ev N1) ∧ (bar = false → x < ev → y < ev → ∀ z, z < k → SPz N1 ch x y z)
theorem SPz.keep {N : NF} {ch c1 p q x y z w : Nat} (h : SPz N ch x y w) (hx : x ≠ z) (hy : y ≠ z) (hw : w ≠ z) : SPz (stp N p q z) (ch ||| c1) x y w := fun e1 e2 => by
  obtain ⟨h1, h2⟩ := h e1 e2
  refine ⟨?_, ?_⟩
  · rcases h1 with h1 | h1
    · exact Or.inl (h1.keep hx hy hw)
    · exact Or.inr (or_bit_l h1)
  · rcases h2 with h2 | h2
    · exact Or.inl (h2.keep hy hx hw)
    · exact Or.inr (or_bit_l h2)
theorem CT.congr {N N1 : NF} {a b c : Nat} (h : CT N a b c) (e : ∀ a b, N1 a b = N a b) : CT N1 a b c := by
  unfold CT at h ⊢
  rw [e, e, e]
  exact h
theorem SPz.new {ev : Nat} {N : NF} {ch c1 x y z : Nat} (hs : SYM ev N) (hx : x < ev) (hy : y < ev) (hz : z < ev) (hxy : x ≠ y) : SPz (stp (stp N x y z) y x z) (ch ||| c1 ||| nrw (stp N x y z) y x z) x y z := fun e1 e2 => by
  have hs1 := stp_sym hs (y := y) hx hz e1.symm
  refine ⟨?_, Or.inl (stp_ct e2.symm hxy.symm e1.symm)⟩
  by_cases hh : has (stp N x y z) y x z = stp N x y z y z
  · exact Or.inl ((stp_ct e1.symm hxy e2.symm).congr (fun a b => stp_id hs1 hy hz hh a b))
  · refine Or.inr (or_bit_r ?_)
    unfold nrw
    rw [if_neg hh]
    exact two_bit
set_option maxRecDepth 10000 in
theorem c_spread (I : SI) (J : SJ) (n ev x y : Nat) (N : NF) (hA : ALG I) (h : NT I n ev N false) (hs : SYM ev N) (hn : NZ ev N) (hx : x < 5) (hy : y < 5) (hxy : x ≠ y) (d : Nat) (hd : 1 < d) : Tri d YX4_spread 117 [vr 16 n, vi (nI x), vi (nI y)] (S0 I J) (fun r σ => ∃ ch N1 bar I1, r = some (vi (nI ch)) ∧ σ = S0 I1 J ∧ NT I1 n ev N1 bar ∧ frN n I I1 ∧ SPR ev x y N N1 ch bar ev) := by
  refine Tri.of (M := MX4_spread) k_X4_spread ⟨Nat.le_refl _, Nat.le_refl _⟩ (Nat.le_of_ble_eq_true rfl) ?_
  have h3 := h.2.2.1
  have h4 := h.2.2.2.1
  have loop : ∀ (m i : Nat) (I1 : SI) (N1 : NF) (ch : Nat) (bar : Bool), i + m = ev → x < ev → y < ev → NT I1 n ev N1 bar → frN n I I1 → SPR ev x y N N1 ch bar i → Sat none MX4_spread d 117 (fun r σ => ∃ ch N1 bar I1, r = some (vi (nI ch)) ∧ σ = S0 I1 J ∧ NT I1 n ev N1 bar ∧ frN n I I1 ∧ SPR ev x y N N1 ch bar ev) 35 [some (vr 16 n), some (vi (nI x)), some (vi (nI y)), some (vi (nI ch)), some (vi (nI i))] [] (S0 I1 J) := by
    intro m
    induction m with
    | zero =>
      intro i I1 N1 ch bar hi hxe hye g1 g2 g3
      refine Sat.of k_X4_spread [35] 60 ?_
      refine ⟨fun c => ⟨rfl, trivial, ch, N1, bar, I1, rfl, rfl, g1, g2, ?_⟩, fun c => ?_⟩
      · rw [show ev = i by omega] at g3 ⊢
        exact g3
      · have c : ¬ I1 16 n 2 ≤ nI i := c
        rw [g1.1] at c
        exact absurd (nI_le (a := ev) (by omega) (by omega)) c
    | succ m ih =>
      intro i I1 N1 ch bar hi hxe hye g1 g2 g3
      refine Sat.of k_X4_spread [35] 60 ?_
      refine ⟨fun c => ?_, fun c => ⟨fun c1 => ⟨rfl, trivial, ch, N1, bar, I1, rfl, rfl, g1, g2, ?_⟩, fun c1 => ?_⟩⟩
      · have c : I1 16 n 2 ≤ nI i := c
        rw [g1.1] at c
        exact absurd ((nI_leI (a := ev) (by omega) (by omega)).mp c) (by omega)
      · have c1 : ¬ I1 16 n 3 = 0 := c1
        rw [g1.2.1] at c1
        have hb := bi_t c1
        subst hb
        exact ⟨g3.1, g3.2.1, g3.2.2.1, fun q => absurd q (by decide)⟩
      · have c1 : I1 16 n 3 = 0 := c1
        rw [g1.2.1] at c1
        have hb := bi_f c1
        subst hb
        obtain ⟨r1, r2, r3, r4⟩ := g3
        have hnz := r2 rfl
        have skip : i = x ∨ i = y → SPR ev x y N N1 ch false (i + 1) := fun e => ⟨r1, r2, r3, fun q1 q2 q3 z hz => by
          by_cases ez : z = i
          · subst ez
            intro e1 e2
            rcases e with e | e
            · exact absurd e e1
            · exact absurd e e2
          · exact r4 q1 q2 q3 z (by omega)⟩
        refine ⟨fun c2 => ?_, fun c2 => ⟨fun c3 => ?_, fun c3 => ?_⟩⟩
        · have c2 : nI i = nI x := c2
          have e := (nI_eq (by omega) (by omega)).mp c2
          exact (ih (i + 1) I1 N1 ch false (by omega) hxe hye g1 g2 (skip (Or.inl e))).to (by rw [← nI_1]; rfl) rfl
        · have c3 : nI i = nI y := c3
          have e := (nI_eq (by omega) (by omega)).mp c3
          exact (ih (i + 1) I1 N1 ch false (by omega) hxe hye g1 g2 (skip (Or.inr e))).to (by rw [← nI_1]; rfl) rfl
        · have eix : i ≠ x := fun e => c2 (by rw [e])
          have eiy : i ≠ y := fun e => c3 (by rw [e])
          have hie : i < ev := by omega
          refine ⟨1, 117, hd, Nat.le_refl _, (c_narrowNet I1 J n ev x y i N1 (hA.fr g2) g1 r1.1 hnz hxe hye hie eix.symm 1 (by omega)).mono ?_⟩
          rintro r σ ⟨rfl, I2, rfl, f1, f2⟩
          have R1 := r1.step h4 hxe hye hie eix.symm
          have hz1 := stp_zero r1.1 hnz (y := y) hxe hie eix.symm
          refine ⟨fun c4 => ?_, fun c4 => ?_⟩
          · have c4 : I2 16 n 3 = 0 := c4
            rw [f1.2.1] at c4
            have hb := bi_f c4
            have hb0 : has N1 x y i ≠ 0 := of_decide_eq_false hb
            rw [hb] at f1
            have hnz1 : NZ ev (stp N1 x y i) := nz_not.mpr (fun e => hb0 (hz1.mpr e))
            refine ⟨1, 117, hd, Nat.le_refl _, (c_narrowNet I2 J n ev y x i (stp N1 x y i) ((hA.fr g2).fr f2) f1 R1.1 hnz1 hye hxe hie eiy.symm 1 (by omega)).mono ?_⟩
            rintro r σ ⟨rfl, I3, rfl, f3, f4⟩
            have R2 := R1.step h4 hye hxe hie eiy.symm
            have hz2 := stp_zero R1.1 hnz1 (y := x) hye hie eiy.symm
            refine (ih (i + 1) I3 (stp (stp N1 x y i) y x i) (ch ||| nrw N1 x y i ||| nrw (stp N1 x y i) y x i) _ (by omega) hxe hye f3 ((g2.tr f2).tr f4) ⟨R2, fun q => nz_not.mpr (fun e => of_decide_eq_false q (hz2.mpr e)), fun q => hz2.mp (of_decide_eq_true q), fun q q1 q2 z hz => ?_⟩).to ?_ rfl
            · by_cases ez : z = i
              · subst ez
                exact SPz.new r1.1 hxe hye hie hxy
              · exact ((r4 rfl q1 q2 z (by omega)).keep eix.symm eiy.symm ez).keep eix.symm eiy.symm ez
            · rw [← nI_1, ← nx_or, ← nx_or]; rfl
          · have c4 : ¬ I2 16 n 3 = 0 := c4
            rw [f1.2.1] at c4
            have hb := bi_t c4
            refine (ih (i + 1) I2 (stp N1 x y i) (ch ||| nrw N1 x y i ||| 0) _ (by omega) hxe hye f1 (g2.tr f2) ⟨by rw [Nat.or_zero]; exact R1, fun q => absurd (q.symm.trans hb) (by decide), fun q => hz1.mp (of_decide_eq_true q), fun q => absurd (q.symm.trans hb) (by decide)⟩).to ?_ rfl
            rw [← nI_1, ← nx_or, ← nx_or]; rfl
  have triv : (x < ev → y < ev → N x y = 8191) → SPR ev x y N N 0 false ev := fun hc => ⟨RC.rf hs, fun _ => hn, fun q => absurd q (by decide), fun _ q1 q2 z hz e1 e2 => by
    have e := hc q1 q2
    have e' : N y x = 8191 := by rw [(hs.1 x y q1 q2).1, e, trn_all]
    refine ⟨Or.inl ?_, Or.inl ?_⟩
    · unfold CT
      rw [e, all_cmps (hs.1 y z q2 hz).2 (hn y z q2 hz)]
      exact Sub.all (hs.1 x z q1 hz).2
    · unfold CT
      rw [e', all_cmps (hs.1 x z q1 hz).2 (hn x z q1 hz)]
      exact Sub.all (hs.1 y z q2 hz).2⟩
  refine Sat.of k_X4_spread [35] 60 ?_
  refine ⟨fun c => ?_, fun c => ⟨fun c1 => ?_, fun c1 => ?_⟩⟩
  · have c : I 16 n 2 ≤ nI x := c
    rw [h.1] at c
    have := (nI_leI (a := ev) (by omega) (by omega)).mp c
    exact ⟨rfl, trivial, 0, N, false, I, rfl, rfl, h, frN.rf, triv (fun q => absurd q (by omega))⟩
  · have c1 : I 16 n 2 ≤ nI y := c1
    rw [h.1] at c1
    have := (nI_leI (a := ev) (by omega) (by omega)).mp c1
    exact ⟨rfl, trivial, 0, N, false, I, rfl, rfl, h, frN.rf, triv (fun _ q => absurd q (by omega))⟩
  · have c : ¬ I 16 n 2 ≤ nI x := c
    have c1 : ¬ I 16 n 2 ≤ nI y := c1
    rw [h.1, nI_leI (by omega) (by omega)] at c c1
    refine ⟨0, 117, by omega, Nat.le_refl _, (c_at I J n ev x y N false h (by omega) (by omega) 0).mono ?_⟩
    rintro r σ ⟨rfl, rfl⟩
    refine ⟨fun c2 => loop ev 0 I N 0 false (by omega) (by omega) (by omega) h frN.rf ⟨RC.rf hs, fun _ => hn, fun q => absurd q (by decide), fun _ _ _ z hz => absurd hz (by omega)⟩, fun c2 => ?_⟩
    have c2 : nI (N x y) = nI 8191 := c2
    have e : N x y = 8191 := (nI_eq (by have := (hs.1 x y (by omega) (by omega)).2; omega) (by decide)).mp c2
    exact ⟨rfl, trivial, 0, N, false, I, rfl, rfl, h, frN.rf, triv (fun _ _ => e)⟩
