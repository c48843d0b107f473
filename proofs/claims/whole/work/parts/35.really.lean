/-! Findings: what is really left -/
theorem IsCl.good {N N1 : NF} {ev : Nat} {b : Bool} (h : IsCl ev N N1 b) (h5 : ev ≤ 5) (h2 : 2 ≤ ev) (hs : SYM ev N) {l : HS} : GOOD N1 (PRb 0 ev) l ↔ GOOD N (PRb 0 ev) l := by
  rcases h with ⟨rfl, s1, n1, l1, p1, g1⟩ | ⟨rfl, z1, g1⟩
  · exact ⟨fun q => q.mono h5 l1 s1, fun q => q.of h5 (g1 _ (AT_pc q h5) (AT_le q h5 hs))⟩
  · exact ⟨fun q => absurd q ((sols_nil h5).mp (sols_zero h2 h5 (z1 0 1 (by omega) (by omega))) l), fun q => absurd AT_nz (g1 _ (AT_pc q h5) (AT_le q h5 hs))⟩
theorem INV.one {ev : Nat} {N : NF} {x y v : Nat} (h5 : ev ≤ 5) (hs : SYM ev N) (hpc : PC ev N) (hx : x < ev) (hy : y < ev) (hxy : x ≠ y) (hv : Sub v (N x y)) : INV ev (putN N x y v) (2 ^ prU x y) := fun a b c ha hb hc hab hbc hac => by
  by_cases e1 : (a = x ∧ b = y) ∨ (a = y ∧ b = x)
  · refine Or.inr (Or.inl ?_)
    have : prU a b = prU x y := by
      rcases e1 with ⟨rfl, rfl⟩ | ⟨rfl, rfl⟩
      · rfl
      · exact prU_comm _ _
    rw [this]
    exact two_bit
  · by_cases e2 : (b = x ∧ c = y) ∨ (b = y ∧ c = x)
    · refine Or.inr (Or.inr ?_)
      have : prU b c = prU x y := by
        rcases e2 with ⟨rfl, rfl⟩ | ⟨rfl, rfl⟩
        · rfl
        · exact prU_comm _ _
      rw [this]
      exact two_bit
    · refine Or.inl ?_
      unfold CT
      rw [putN_ne (fun q => e1 (Or.inl q)) (fun q => e1 (Or.inr q)), putN_ne (fun q => e2 (Or.inl q)) (fun q => e2 (Or.inr q))]
      exact (putN_le hs hx hy hxy hv a c ha hc).tr (hpc a b c ha hb hc)
theorem nx_xor (a b : Nat) : nI a ^^^ nI b = nI (a ^^^ b) := by
  apply Int32.toBitVec_inj.1
  show BitVec.ofNat 32 a ^^^ BitVec.ofNat 32 b = BitVec.ofNat 32 (a ^^^ b)
  apply BitVec.eq_of_getLsbD_eq
  intro i hi
  simp [hi]
theorem open_t {a b r : Nat} (ha : a < 8192) (hr : r < 13) : (nI a &&& (nI b ^^^ (-1)) &&& nI (2 ^ r) = 0) ↔ ¬ (a.testBit r = true ∧ b.testBit r = false) := by
  have e : nI a &&& (nI b ^^^ (-1)) &&& nI (2 ^ r) = nI (a &&& (b ^^^ 4294967295) &&& 2 ^ r) := by
    rw [← nx_an, ← nx_an, ← nx_xor]
    rfl
  have hl : a &&& (b ^^^ 4294967295) &&& 2 ^ r < 8192 := and_lt13 (and_lt13 ha)
  have hb : ∀ i, (a &&& (b ^^^ 4294967295) &&& 2 ^ r).testBit i = (a.testBit i && (b.testBit i ^^ decide (i < 32)) && decide (r = i)) := fun i => by
    rw [Nat.testBit_and, Nat.testBit_and, Nat.testBit_xor, Nat.testBit_two_pow, show (4294967295 : Nat) = 2 ^ 32 - 1 from rfl, Nat.testBit_two_pow_sub_one]
  rw [e, show (0 : Int32) = nI 0 from rfl, nI_eq (by omega) (by decide)]
  constructor
  · rintro h ⟨h1, h2⟩
    have := hb r
    rw [h, h1, h2, decide_eq_true (show r < 32 by omega)] at this
    simp at this
  · intro h
    refine Nat.eq_of_testBit_eq fun i => ?_
    rw [hb i, Nat.zero_testBit]
    by_cases er : r = i
    · subst er
      rw [decide_eq_true (show r < 32 by omega)]
      cases h1 : a.testBit r with
      | false => rfl
      | true =>
        cases h2 : b.testBit r with
        | false => exact absurd ⟨h1, h2⟩ h
        | true => rfl
    · rw [decide_eq_false er, Bool.and_false]
/-- all that is marked is so in some history -/
def WT (ev : Nat) (L : List Ob) (N : NF) : Prop := (∀ a b, a < ev → b < ev → N a b < 8192 ∧ (a ≠ b → N b a = trn (N a b))) ∧ ∀ a b, a < ev → b < ev → a ≠ b → ∀ c, (N a b).testBit c = true → ∃ l, GOOD (tol L (Nat.testBit 0)) (PRb 0 ev) l ∧ relH l a b = c
theorem WT.mrk {ev : Nat} {L : List Ob} {N : NF} (h : WT ev L N) (h5 : ev ≤ 5) {l : HS} (hl : GOOD (tol L (Nat.testBit 0)) (PRb 0 ev) l) : WT ev L (mrk N l) := by
  have h13 := hl.l13 h5
  refine ⟨fun a b ha hb => ?_, fun a b ha hb hab c hc => ?_⟩
  · unfold Jvm.Pilot.COutcropAgesLaw_law_r9933_a420fe.mrk
    by_cases e : a = b
    · rw [if_pos e]
      exact ⟨by decide, fun q => absurd e q⟩
    · rw [if_neg e, if_neg (Ne.symm e), trn_or, trn_pow _ (h13.rel ha hb), ← (h.1 a b ha hb).2 e, relH_sw h13 ha hb e]
      exact ⟨Nat.or_lt_two_pow (n := 13) (h.1 a b ha hb).1 (pow_lt13 (h13.rel ha hb)), fun _ => rfl⟩
  · unfold Jvm.Pilot.COutcropAgesLaw_law_r9933_a420fe.mrk at hc
    rw [if_neg hab, Nat.testBit_or, Bool.or_eq_true] at hc
    rcases hc with hc | hc
    · exact h.2 a b ha hb hab c hc
    · exact ⟨l, hl, pow_bit.mp hc⟩
theorem FIc.k {I I1 : SI} {J J1 : SJ} {ev : Nat} {L : List Ob} (h : FIc I J ev L) (h16 : I1 16 1 = I 16 1) (h17 : I1 17 1 = I 17 1) (h8 : I1 8 0 = I 8 0) (h15 : I1 15 0 = I 15 0) (hj : J1 0 = J 0) : FIc I1 J1 ev L := by
  obtain ⟨Nc, bc, w, fa, q1, q2, q3, q4, q5⟩ := h
  refine ⟨Nc, bc, w, fa, ?_, q2, q3.fr h8 h15 hj, by rw [h8]; exact q4, q5⟩
  unfold NT at q1 ⊢
  rw [h16, h17]
  exact q1
theorem FI.fr2 {I I1 : SI} {J : SJ} {ev : Nat} {L : List Ob} (h : FI I J ev L) (hf : frN 2 I I1) : FI I1 J ev L := by
  obtain ⟨a1, a2, a3, kc, a4, a6⟩ := h
  refine ⟨a1.fr hf, ?_, a3, kc, by rw [hf 7 0 (by omega)]; exact a4, fun q => (a6 q).k (hf 16 1 (by omega)) (hf 17 1 (by omega)) (hf 8 0 (by omega)) (hf 15 0 (by omega)) rfl⟩
  unfold BK at a2 ⊢
  rw [hf 3 1 (by omega), hf 4 1 (by omega), hf 5 1 (by omega), hf 6 1 (by omega)]
  exact a2
/-- after a try -/
def TRY (ev : Nat) (L : List Ob) (I I1 : SI) (J1 : SJ) (N N1 : NF) : Prop := RN I1 2 ev N1 ∧ WT ev L N1 ∧ (∀ a b, a < ev → b < ev → a ≠ b → Sub (N a b) (N1 a b)) ∧ (∀ a, a < ev → N1 a a = 64) ∧ FI I1 J1 ev L ∧ FIc I1 J1 ev L ∧ frF I I1 ∧ I1 7 0 = I 7 0
set_option maxRecDepth 10000 in
theorem c_tryRelation (I : SI) (J : SJ) (ev x r y : Nat) (L : List Ob) (N : NF) (h : FI I J ev L) (hc : FIc I J ev L) (hpos : 0 < (hst ev L 0).length) (hR : RN I 2 ev N) (hW : WT ev L N) (hN : ∀ a, a < ev → N a a = 64) (hxy : x < y) (hy : y < ev) (hr : r < 13) (d : Nat) (hd : 19 < d) : Tri d YX2_tryRelation 117 [vr 7 0, vi (nI x), vi (nI r), vi (nI y)] (S0 I J) (fun v σ => v = none ∧ ∃ I1 J1 N1, σ = S0 I1 J1 ∧ TRY ev L I I1 J1 N N1 ∧ ((∃ l, GOOD (tol L (Nat.testBit 0)) (PRb 0 ev) l ∧ relH l x y = r) → (N1 x y).testBit r = true)) := by
  refine Tri.of (M := MX2_tryRelation) k_X2_tryRelation ⟨Nat.le_refl _, Nat.le_refl _⟩ (Nat.le_of_ble_eq_true rfl) ?_
  have h2 := h.2.1.2.2.2.1
  have h5 := h.2.1.2.2.2.2.1
  have hw := h.2.2.1
  have hs := tol_sym (g := Nat.testBit 0) hw
  obtain ⟨Nc, bc, w, fa, q1, q2, q3, q4, q5⟩ := hc
  have hc : FIc I J ev L := ⟨Nc, bc, w, fa, q1, q2, q3, q4, q5⟩
  have gd : ∀ l, GOOD Nc (PRb 0 ev) l ↔ GOOD (tol L (Nat.testBit 0)) (PRb 0 ev) l := fun l => q2.good h5 h2 hs
  have hbc : bc = false ∧ SYM ev Nc ∧ NZ ev Nc ∧ PC ev Nc := by
    rcases q2 with ⟨e, s1, n1, l1, p1, g1⟩ | ⟨e, z1, g1⟩
    · exact ⟨e, s1, n1, p1⟩
    · obtain ⟨l, hl⟩ := (sols_pos h5).mp hpos
      exact absurd AT_nz (g1 _ (AT_pc hl h5) (AT_le hl h5 hs))
  obtain ⟨rfl, s1, n1, p1⟩ := hbc
  have hNc := (s1.1 x y (by omega) hy).2
  have same : (¬ ∃ l, GOOD (tol L (Nat.testBit 0)) (PRb 0 ev) l ∧ relH l x y = r) ∨ (N x y).testBit r = true → ∀ I1 J1, frT I I1 → (∀ k, k ≠ 1 → J1 k = J k) → ∃ I2 J2 N1, S0 I1 J1 = S0 I2 J2 ∧ TRY ev L I I2 J2 N N1 ∧ ((∃ l, GOOD (tol L (Nat.testBit 0)) (PRb 0 ev) l ∧ relH l x y = r) → (N1 x y).testBit r = true) := fun e I1 J1 hf hj =>
    ⟨I1, J1, N, rfl, ⟨fun a b ha hb => by rw [hf 17 2 (by omega) (by omega)]; exact hR a b ha hb, hW, fun _ _ _ _ _ => Sub.rf, hN, h.frT hf hj, hc.k (hf 16 1 (by omega) (by omega)) (hf 17 1 (by omega) (by omega)) (hf 8 0 (by omega) (by omega)) (hf 15 0 (by omega) (by omega)) (hj 0 (by decide)), hf.F, hf 7 0 (by omega) (by omega)⟩, fun q => by
      rcases e with e | e
      · exact absurd q e
      · exact e⟩
  have es : (1 : Int32) <<< (nI r &&& 31) = nI (2 ^ r) := nx_shl (by omega)
  have ht := open_t (a := Nc x y) (b := N x y) hNc hr
  refine Sat.of k_X2_tryRelation [] 60 ?_
  refine ⟨0, 117, by omega, Nat.le_refl _, (c_at I J 1 ev x y Nc false q1 (by omega) hy 0).mono ?_⟩
  rintro v σ ⟨rfl, rfl⟩
  refine ⟨0, 117, by omega, Nat.le_refl _, (c_atR I J 2 ev x y N hR h5 (by omega) hy 0).mono ?_⟩
  rintro v σ ⟨rfl, rfl⟩
  refine ⟨fun c => ⟨rfl, rfl, rfl, same ?_ I J frT.rf (fun _ _ => rfl)⟩, fun c => ⟨1, 117, by omega, Nat.le_refl _, (c_netCopy I J 3 1 ev Nc false q1 (by decide) 1 (by decide)).mono ?_⟩⟩
  · have c : nI (Nc x y) &&& (nI (N x y) ^^^ (-1)) &&& ((1 : Int32) <<< (nI r &&& 31)) = 0 := c
    rw [es, ht] at c
    by_cases e : (N x y).testBit r = true
    · exact Or.inr e
    · refine Or.inl ?_
      rintro ⟨l, g1, g2⟩
      refine c ⟨?_, by simpa using e⟩
      have := AT_le ((gd l).mpr g1) h5 s1 x y (by omega) hy r (by unfold AT; rw [if_neg (by omega), g2]; exact two_bit)
      exact this
  · have c : ¬ nI (Nc x y) &&& (nI (N x y) ^^^ (-1)) &&& ((1 : Int32) <<< (nI r &&& 31)) = 0 := c
    rw [es, ht, Classical.not_not] at c
    have hsub : Sub (2 ^ r) (Nc x y) := fun i hi => by rw [pow_bit] at hi; subst hi; exact c.1
    rintro v σ ⟨rfl, I1, rfl, k1, k2⟩
    refine ⟨1, 117, by omega, Nat.le_refl _, (c_put I1 J 3 ev x y (2 ^ r) Nc false (h.1.fr k2) k1 (by omega) hy (pow_lt13 hr) 1 (by decide)).to ?_ rfl ?_⟩
    · show [vr 16 3, vi (nI x), vi (nI y), vi ((1 : Int32) <<< (nI r &&& 31))] = _
      rw [es]
    rintro v σ ⟨rfl, I2, rfl, m1, m2⟩
    have h0 : 2 ^ r ≠ 0 := Nat.ne_of_gt (Nat.two_pow_pos r)
    rw [decide_eq_false h0, Bool.or_false] at m1
    refine ⟨0, 117, by omega, Nat.le_refl _, (c_pairOf I2 J x y hxy (by omega) 0).mono ?_⟩
    rintro v σ ⟨rfl, rfl⟩
    have epr : prU x y = PRb x y := by unfold prU; rw [if_pos hxy]
    have hp10 := prU_lt (a := x) (b := y) (by omega) (by omega) (by omega)
    have hs2 := putN_sym s1 (x := x) (y := y) (by omega) (pow_lt13 hr)
    have hz2 : ¬ ZERO ev (putN Nc x y (2 ^ r)) := by
      rw [putN_zero s1 (by omega) hy (by omega) hsub]
      rintro (z | z)
      · exact nz_not.mp n1 z
      · exact h0 z
    refine ⟨3, 117, by omega, Nat.le_refl _, (c_close I2 J 3 ev (2 ^ prU x y) (putN Nc x y (2 ^ r)) false ((h.1.fr k2).fr m2) m1 hs2 (fun _ => nz_not.mpr hz2) (fun q => absurd q (by decide)) (Nat.pow_lt_pow_right (n := 10) (by decide) hp10) (fun _ => INV.one h5 s1 p1 (by omega) hy (by omega) hsub) 3 (by decide)).to ?_ rfl ?_⟩
    · show [vr 16 3, vi ((1 : Int32) <<< (nI (PRb x y) &&& 31))] = _
      rw [nx_shl (by omega), epr]
    rintro v σ ⟨rfl, N3, b3, I3, rfl, n3, n4, n5⟩
    have hf3 : frT I I3 := ((k2.tr m2).tr n4).T (Or.inr rfl)
    refine ⟨19, 117, hd, Nat.le_refl _, (c_find I3 J 1 ev 1 N3 b3 (((h.1.fr k2).fr m2).fr n4) n3 (by decide) (by decide) 19 (by decide)).mono ?_⟩
    rintro v σ ⟨I4, J4, rfl, rfl, ⟨u1, u2⟩, u3, u4⟩
    have eS : sols ev N3 = sols ev (putN Nc x y (2 ^ r)) := (n5.sols h5 hs2).symm
    have t1 : tlen 14 1 = 1 := rfl
    rw [t1] at u1 ⊢
    have hf4 : frT I I4 := hf3.tr u3.T
    have key : ∀ l, GOOD (putN Nc x y (2 ^ r)) (PRb 0 ev) l ↔ GOOD (tol L (Nat.testBit 0)) (PRb 0 ev) l ∧ relH l x y = r := fun l => by
      rw [GOOD.put_t h5 s1 (by omega) hy (by omega) hsub (pow_lt13 hr), gd l, pow_bit]
      exact ⟨fun q => ⟨q.1, q.2.symm⟩, fun q => ⟨q.1, q.2.symm⟩⟩
    refine ⟨fun c1 => ⟨rfl, rfl, rfl, same (Or.inl ?_) I4 J4 hf4 u4⟩, fun c1 => ?_⟩
    · have c1 : nI (min (sols ev N3).length (min 1 1)) ≤ nI 0 := c1
      rw [nI_leI (by omega) (by decide), eS] at c1
      rintro ⟨l, g1⟩
      have := (sols_pos h5).mpr ⟨l, (key l).mpr g1⟩
      omega
    · have c1 : ¬ nI (min (sols ev N3).length (min 1 1)) ≤ nI 0 := c1
      rw [nI_leI (by omega) (by decide)] at c1
      have hl1 : 0 < (List.take (min 1 1) (sols ev N3)).length := by rw [List.length_take]; omega
      have hR4 : RN I4 2 ev N := fun a b ha hb => by rw [hf4 17 2 (by omega) (by omega)]; exact hR a b ha hb
      have hF4 := h.frT hf4 u4
      have hc4 : FIc I4 J4 ev L := hc.k (hf4 16 1 (by omega) (by omega)) (hf4 17 1 (by omega) (by omega)) (hf4 8 0 (by omega) (by omega)) (hf4 15 0 (by omega) (by omega)) (u4 0 (by decide))
      refine ⟨2, 117, by omega, Nat.le_refl _, (c_mark I4 J4 1 ev N _ hF4.1 hF4.2.1.1 h5 u1 hl1 hR4 (fun a b ha hb hab => (hW.1 a b ha hb).2 hab) 2 (by decide)).mono ?_⟩
      rintro v σ ⟨rfl, I5, rfl, v1, v2⟩
      have hm : nthD (List.take (min 1 1) (sols ev N3)) 0 h00 ∈ sols ev N3 := by
        cases e : sols ev N3 with
        | nil => rw [e] at c1; simp at c1
        | cons a t => exact List.mem_cons_self
      generalize hlD : nthD (List.take (min 1 1) (sols ev N3)) 0 h00 = l at hm v1
      rw [eS] at hm
      obtain ⟨g1, g2⟩ := (key l).mp (sols_good h5 hm)
      refine ⟨rfl, rfl, rfl, I5, J4, mrk N l, rfl, ⟨v1, hW.mrk h5 g1, fun a b ha hb hab => ?_, fun a ha => ?_, hF4.fr2 v2, hc4.k (v2 16 1 (by omega)) (v2 17 1 (by omega)) (v2 8 0 (by omega)) (v2 15 0 (by omega)) rfl, hf4.F.tr v2.F, (v2 7 0 (by omega)).trans (hf4 7 0 (by omega) (by omega))⟩, fun _ => ?_⟩
      · unfold mrk
        rw [if_neg hab]
        exact fun i hi => or_bit_l hi
      · unfold mrk
        rw [if_pos rfl]
      · unfold mrk
        rw [if_neg (by omega), g2]
        exact or_bit_r two_bit
