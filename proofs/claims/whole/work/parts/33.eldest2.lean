/-! Findings: eldestEvents -/
theorem sols_zero {ev : Nat} {N : NF} (h2 : 2 ≤ ev) (h5 : ev ≤ 5) (h : N 0 1 = 0) : (sols ev N).length = 0 := by
  rw [sols_nil h5]
  intro l hl
  have := (hl.in (y := 0) (z := 1) (by decide) (by decide) (pr0_lt ev (by omega) 1 (by omega) 0 (by decide))).1
  rw [h] at this
  simp at this
theorem sols_pos {ev : Nat} {N : NF} (h5 : ev ≤ 5) : 0 < (sols ev N).length ↔ ∃ l, GOOD N (PRb 0 ev) l := by
  have := sols_nil (N := N) h5
  constructor
  · intro h
    rcases Classical.em (∃ l, GOOD N (PRb 0 ev) l) with q | q
    · exact q
    · exact absurd (this.mpr (fun l hl => q ⟨l, hl⟩)) (by omega)
  · rintro ⟨l, hl⟩
    rcases Nat.eq_zero_or_pos (sols ev N).length with q | q
    · exact absurd hl (this.mp q l)
    · exact q
theorem NT.trT {I I1 : SI} {n ev : Nat} {N : NF} {bar : Bool} (h : NT I n ev N bar) (hf : frT I I1) (hn : n = 1 ∨ n = 2) : NT I1 n ev N bar := by
  unfold NT at h ⊢
  rw [hf 16 n (by omega) (by omega), hf 17 n (by omega) (by omega)]
  exact h
set_option maxRecDepth 10000 in
theorem c_eldest (I : SI) (J : SJ) (ev : Nat) (L : List Ob) (h : FI I J ev L) (d : Nat) (hd : 20 < d) : Tri d YX2_eldestEvents 117 [vr 7 0] (S0 I J) (fun r σ => r = some (vi (nI (eldN ev (hst ev L 0) ev))) ∧ ∃ I1 J1, σ = S0 I1 J1 ∧ FI I1 J1 ev L ∧ frF I I1 ∧ KR I I1) := by
  refine Tri.of (M := MX2_eldestEvents) k_X2_eldestEvents ⟨Nat.le_refl _, Nat.le_refl _⟩ (Nat.le_of_ble_eq_true rfl) ?_
  have h2 := h.2.1.2.2.2.1
  have h5 := h.2.1.2.2.2.2.1
  have hw := h.2.2.1
  generalize hQ : (fun (r : Option AV) (σ : ST) => r = some (vi (nI (eldN ev (hst ev L 0) ev))) ∧ ∃ I1 J1, σ = S0 I1 J1 ∧ FI I1 J1 ev L ∧ frF I I1 ∧ KR I I1) = Q
  have loop : ∀ (n x : Nat) (I1 : SI) (J1 : SJ) (v : Option AV) (Nc : NF) (bc : Bool), x + n = ev → NT I1 1 ev Nc bc → IsCl ev (tol L (Nat.testBit 0)) Nc bc → FI I1 J1 ev L → frF I I1 → KR I I1 → Sat none MX2_eldestEvents d 117 Q 9 [some (vr 7 0), some (vi (nI (eldN ev (hst ev L 0) x))), some (vi (nI x)), v] [] (S0 I1 J1) := by
    intro n
    induction n with
    | zero =>
      intro x I1 J1 v Nc bc hx c1 c2 f1 f2 f3
      have e : x = ev := by omega
      subst e
      refine Sat.of k_X2_eldestEvents [9, 33] 60 ?_
      refine ⟨fun c => ⟨rfl, trivial, by rw [← hQ]; exact ⟨rfl, I1, J1, rfl, f1, f2, f3⟩⟩, fun c => ?_⟩
      have c : ¬ I1 3 1 4 ≤ nI x := c
      rw [f1.2.1.1] at c
      exact absurd (nI_le (a := x) (b := x) (Nat.le_refl _) (by omega)) c
    | succ n ih =>
      intro x I1 J1 v Nc bc hx c1 c2 f1 f2 f3
      have eS := FIc.hst (I := I) (J := J) hw h5 c2
      have hxe : x < ev := by omega
      have es : (1 : Int32) <<< (nI x &&& 31) = nI (2 ^ x) := nx_shl (by omega)
      have inner : ∀ (n2 y : Nat) (I2 : SI) (Nt : NF) (bt : Bool), y + n2 = ev → frT I1 I2 → NT I2 3 ev Nt bt → ((bc = false ∧ (∀ a b, a < ev → b < ev → Nt a b = hN Nc x y a b) ∧ SYM ev Nc ∧ (bt = true ↔ ZERO ev (hN Nc x y))) ∨ (bc = true ∧ bt = true)) → Sat none MX2_eldestEvents d 117 Q 33 [some (vr 7 0), some (vi (nI (eldN ev (hst ev L 0) x))), some (vi (nI x)), some (vi (nI y))] [] (S0 I2 J1) := by
        intro n2
        induction n2 with
        | zero =>
          intro y I2 Nt bt hy g1 g2 g3
          have e : y = ev := by omega
          subst e
          have hF2 : FI I2 J1 y L := f1.frT g1 (fun _ _ => rfl)
          have rest : ∀ (I3 : SI) (N3 : NF) (b3 : Bool), frN 3 I2 I3 → NT I3 3 y N3 b3 → (0 < (sols y N3).length ↔ eldB y (hst y L 0) x = true) → ∃ d1 n1, d1 < d ∧ n1 ≤ 117 ∧ Tri d1 YX3_find n1 [vr 8 1, vi 1] (S0 I3 J1) (fun r σ => (∃ I4 J4, r = some (vi (nI (min (sols y N3).length 1))) ∧ σ = S0 I4 J4 ∧ FI I4 J4 y L ∧ frT I1 I4)) := fun I3 N3 b3 r1 r2 r3 => by
            refine ⟨20, 117, hd, Nat.le_refl _, (c_find I3 J1 1 y 1 N3 b3 (hF2.1.fr r1) r2 (by decide) (by decide) 20 (by decide)).mono ?_⟩
            rintro r σ ⟨I4, J4, rfl, rfl, _, s3, s4⟩
            have hf : frT I1 I4 := (g1.tr (r1.T (Or.inr rfl))).tr s3.T
            exact ⟨I4, J4, rfl, rfl, f1.frT hf s4, hf⟩
          have fin : ∀ (I3 : SI) (N3 : NF) (b3 : Bool), frN 3 I2 I3 → NT I3 3 y N3 b3 → (0 < (sols y N3).length ↔ eldB y (hst y L 0) x = true) → Sat none MX2_eldestEvents d 117 Q 77 [some (vr 7 0), some (vi (nI (eldN y (hst y L 0) x))), some (vi (nI x)), some (vi (nI y))] [] (S0 I3 J1) := fun I3 N3 b3 r1 r2 r3 => by
            refine Sat.of k_X2_eldestEvents [9, 33] 60 ?_
            obtain ⟨d1, n1, k1, k2, k3⟩ := rest I3 N3 b3 r1 r2 r3
            refine ⟨d1, n1, k1, k2, k3.mono ?_⟩
            rintro r σ ⟨I4, J4, rfl, rfl, s1, s2⟩
            refine ⟨fun c => ?_, fun c => ?_⟩
            · have c : nI (min (sols y N3).length 1) ≤ nI 0 := c
              rw [nI_leI (by omega) (by decide)] at c
              have eb : ¬ eldB y (hst y L 0) x = true := fun q => absurd (r3.mpr q) (by omega)
              refine (ih (x + 1) I4 J4 (some (vi (nI y))) Nc bc (by omega) (c1.trT s2 (Or.inl rfl)) c2 s1 (f2.tr s2.F) (f3.tr s2.K)).to ?_ rfl
              simp only [eldN]
              rw [if_neg eb, ← nI_1]
              rfl
            · have c : ¬ nI (min (sols y N3).length 1) ≤ nI 0 := c
              rw [nI_leI (by omega) (by decide)] at c
              have eb : eldB y (hst y L 0) x = true := r3.mp (by omega)
              refine (ih (x + 1) I4 J4 (some (vi (nI y))) Nc bc (by omega) (c1.trT s2 (Or.inl rfl)) c2 s1 (f2.tr s2.F) (f3.tr s2.K)).to ?_ rfl
              simp only [eldN]
              rw [if_pos eb, ← nI_1, ← nx_or, ← es]
              rfl
          refine Sat.of k_X2_eldestEvents [9, 33, 77] 60 ?_
          refine ⟨fun c => ?_, fun c => ?_⟩
          · rcases g3 with ⟨e1, e2, e3, e4⟩ | ⟨e1, e2⟩
            · have hs3 := hN_sym e3 hxe (Nat.le_refl _)
              refine ⟨3, 117, by omega, Nat.le_refl _, (c_close I2 J1 3 y 1023 (hN Nc x y) bt hF2.1 (g2.congr (fun a b ha hb => (e2 a b ha hb).symm)) hs3 (fun q => nz_not.mpr (fun z => absurd (e4.mpr z) (by rw [q]; decide))) e4.mp (by decide) (fun _ => INV.all h5) 3 (by decide)).mono ?_⟩
              rintro r σ ⟨rfl, N3, b3, I3, rfl, r1, r2, r3⟩
              refine fin I3 N3 b3 r2 r1 ?_
              rw [← r3.sols h5 hs3, sols_pos h5, ← eS, eldB_t h5 hxe]
              constructor
              · rintro ⟨l, hl⟩
                exact ⟨l, (hN_good h5 e3 hxe (Nat.le_refl _)).mp hl⟩
              · rintro ⟨l, hl⟩
                exact ⟨l, (hN_good h5 e3 hxe (Nat.le_refl _)).mpr hl⟩
            · subst e2
              refine ⟨3, 117, by omega, Nat.le_refl _, (c_closeB I2 J1 3 y 1023 Nt g2 (by decide) (by decide) 3 (by decide)).mono ?_⟩
              rintro r σ ⟨rfl, I3, rfl, r1, r2⟩
              refine fin I3 (fun _ _ => 0) true r2 r1 ?_
              rw [sols_zero h2 h5 rfl, ← eS, eldB_t h5 hxe]
              constructor
              · intro q; omega
              · rintro ⟨l, hl, _⟩
                rcases c2 with ⟨q1, _⟩ | ⟨_, q2, _⟩
                · rw [q1] at e1; cases e1
                · exact absurd hl ((sols_nil h5).mp (sols_zero h2 h5 (q2 0 1 (by omega) (by omega))) l)
          · have c : ¬ I2 3 1 4 ≤ nI y := c
            rw [hF2.2.1.1] at c
            exact absurd (nI_le (a := y) (b := y) (Nat.le_refl _) (by omega)) c
        | succ n2 ih2 =>
          intro y I2 Nt bt hy g1 g2 g3
          have hF2 : FI I2 J1 ev L := f1.frT g1 (fun _ _ => rfl)
          refine Sat.of k_X2_eldestEvents [9, 33] 60 ?_
          refine ⟨fun c => ?_, fun c => ⟨fun c3 => ?_, fun c3 => ⟨2, 117, by omega, Nat.le_refl _, (c_hold I2 J1 3 ev x y 975 Nt bt hF2.1 g2 hxe (by omega) 2 (by decide)).mono ?_⟩⟩⟩
          · have c : I2 3 1 4 ≤ nI y := c
            rw [hF2.2.1.1, nI_leI (by omega) (by omega)] at c
            omega
          · have c3 : nI x = nI y := c3
            have e := (nI_eq (by omega) (by omega)).mp c3
            refine (ih2 (y + 1) I2 Nt bt (by omega) g1 g2 ?_).to (by rw [← nI_1]; rfl) rfl
            rcases g3 with ⟨e1, e2, e3, e4⟩ | g3
            · have e5 : hN Nc x (y + 1) = hN Nc x y := by simp only [hN]; rw [if_pos e]
              rw [e5]
              exact Or.inl ⟨e1, e2, e3, e4⟩
            · exact Or.inr g3
          · rintro r σ ⟨rfl, I3, rfl, r1, r2⟩
            have e : x ≠ y := fun q => c3 (by rw [q])
            refine (ih2 (y + 1) I3 _ _ (by omega) (g1.tr (r2.T (Or.inr rfl))) r1 ?_).to (by rw [← nI_1]; rfl) rfl
            rcases g3 with ⟨e1, e2, e3, e4⟩ | ⟨e1, e2⟩
            · have hs3 := hN_sym e3 hxe (y := y) (by omega)
              have e5 : hN Nc x (y + 1) = putN (hN Nc x y) x y (hN Nc x y x y &&& 975) := by simp only [hN]; rw [if_neg e]
              have e6 := e2 x y hxe (by omega)
              rw [e5, e6]
              refine Or.inl ⟨e1, fun a b ha hb => ?_, e3, ?_⟩
              · unfold putN
                rw [e2 a b ha hb]
              · rw [putN_zero hs3 hxe (by omega) e Sub.and_l, ← e4, Bool.or_eq_true, decide_eq_true_eq]
            · exact Or.inr ⟨e1, by rw [e2, Bool.true_or]⟩
      refine Sat.of k_X2_eldestEvents [9, 33] 60 ?_
      refine ⟨fun c => ?_, fun c => ⟨1, 117, by omega, Nat.le_refl _, (c_netCopy I1 J1 3 1 ev Nc bc c1 (by decide) 1 (by decide)).mono ?_⟩⟩
      · have c : I1 3 1 4 ≤ nI x := c
        rw [f1.2.1.1, nI_leI (by omega) (by omega)] at c
        omega
      · rintro r σ ⟨rfl, I2, rfl, r1, r2⟩
        refine inner ev 0 I2 Nc bc (by omega) (r2.T (Or.inr rfl)) r1 ?_
        rcases c2 with ⟨q1, s1, n1, _⟩ | ⟨q1, _⟩
        · refine Or.inl ⟨q1, fun _ _ _ _ => rfl, s1, ?_⟩
          rw [q1]
          exact ⟨fun q => absurd q (by decide), fun q => absurd q (nz_not.mp n1)⟩
        · exact Or.inr ⟨q1, q1⟩
  refine Sat.of k_X2_eldestEvents [9, 33] 60 ?_
  refine ⟨4, 117, by omega, Nat.le_refl _, (c_closedNet I J ev L h 4 (by decide)).mono ?_⟩
  rintro r σ ⟨rfl, I1, rfl, k1, ⟨Nc, bc, w, fa, q1, q2, q3, q4, q5⟩, k3, k4⟩
  exact loop ev 0 I1 J none Nc bc (by omega) q1 q2 k1 k3 k4
