/-! Findings: histories, with and without observations -/
theorem FIc.L {I I1 : SI} {J J1 : SJ} {ev : Nat} {L : List Ob} (h : FIc I J ev L) (hf : frL 0 I I1) {w : Nat} {fa : Bool} (h1 : LST I1 J1 0 ev ((hst ev L 0).take w)) (h2 : I1 8 0 8 = bi fa) (h3 : fa = true → (hst ev L 0).length ≤ w) : FIc I1 J1 ev L := by
  obtain ⟨Nc, bc, _, _, q1, q2, _, _, _⟩ := h
  refine ⟨Nc, bc, w, fa, ?_, q2, h1, h2, h3⟩
  unfold NT at q1 ⊢
  rw [hf 16 1 (by omega), hf 17 1 (by omega)]
  exact q1
theorem FI.L {I I1 : SI} {J J1 : SJ} {ev : Nat} {L : List Ob} (h : FI I J ev L) (hf : frL 0 I I1) (hc : FIc I1 J1 ev L) : FI I1 J1 ev L := by
  obtain ⟨a1, a2, a3, kc, a4, a6⟩ := h
  refine ⟨a1.frL hf, ?_, a3, kc, by rw [hf 7 0 (by omega)]; exact a4, fun _ => hc⟩
  unfold BK at a2 ⊢
  rw [hf 3 1 (by omega), hf 4 1 (by omega), hf 5 1 (by omega), hf 6 1 (by omega)]
  exact a2
theorem frL.K {I I1 : SI} {m : Nat} (h : frL m I I1) : KR I I1 := ⟨by rw [h 7 0 (by omega)], h 17 2 (by omega), h 16 2 (by omega)⟩
theorem FIc.hst {I : SI} {J : SJ} {ev : Nat} {L : List Ob} (hw : WFo ev L) (h5 : ev ≤ 5) {Nc : NF} {bc : Bool} (q2 : IsCl ev (tol L (Nat.testBit 0)) Nc bc) : sols ev Nc = hst ev L 0 := (q2.sols h5 (tol_sym hw)).symm
/-- k histories at least are at hand, if there are so many -/
def HAS (I : SI) (J : SJ) (m ev k : Nat) (T : List HS) : Prop := ∃ w, LST I J m ev (T.take w) ∧ min T.length k ≤ (T.take w).length
set_option maxRecDepth 10000 in
theorem c_findHistories (I : SI) (J : SJ) (ev most : Nat) (L : List Ob) (h : FI I J ev L) (h1 : 1 ≤ most) (h3 : most ≤ 300) (d : Nat) (hd : 19 < d) : Tri d YX2_findHistories 117 [vr 7 0, vi (nI most)] (S0 I J) (fun r σ => r = some (vi (nI (min (hst ev L 0).length most))) ∧ ∃ I1 J1, σ = S0 I1 J1 ∧ FI I1 J1 ev L ∧ FIc I1 J1 ev L ∧ HAS I1 J1 0 ev most (hst ev L 0) ∧ frF I I1 ∧ KR I I1) := by
  refine Tri.of (M := MX2_findHistories) k_X2_findHistories ⟨Nat.le_refl _, Nat.le_refl _⟩ (Nat.le_of_ble_eq_true rfl) ?_
  have h5 := h.2.1.2.2.2.2.1
  have hw := h.2.2.1
  refine Sat.of k_X2_findHistories [] 60 ?_
  refine ⟨4, 117, by omega, Nat.le_refl _, (c_closedNet I J ev L h 4 (by decide)).mono ?_⟩
  rintro r σ ⟨rfl, I1, rfl, k1, k2, k3, k4⟩
  have k2' := k2
  obtain ⟨Nc, bc, w, fa, q1, q2, q3, q4, q5⟩ := k2
  have eS := FIc.hst (I := I) (J := J) hw h5 q2
  have hlen := q3.2.1
  have hlt : (List.take w (hst ev L 0)).length = min w (hst ev L 0).length := List.length_take
  have t300 : tlen 14 0 = 300 := rfl
  have done : ∀ (h0 : (min (hst ev L 0).length most) ≤ (List.take w (hst ev L 0)).length), (if nI most < I1 8 0 6 then nI most else I1 8 0 6) = nI (min (hst ev L 0).length most) := fun h0 => by
    rw [q3.1, mnI (by omega) (by omega)]
    exact congrArg nI (by omega)
  refine ⟨fun c => ⟨by omega, rfl, trivial, ?_, I1, J, rfl, k1, k2', ⟨w, q3, ?_⟩, k3, k4⟩, fun c => ⟨fun c1 => ⟨by omega, rfl, trivial, ?_, I1, J, rfl, k1, k2', ⟨w, q3, ?_⟩, k3, k4⟩, fun c1 => ⟨19, 117, hd, Nat.le_refl _, (c_find I1 J 0 ev most Nc bc k1.1 q1 h1 (by omega) 19 (by decide)).mono ?_⟩⟩⟩
  · have c : nI most ≤ I1 8 0 6 := c
    rw [q3.1, nI_leI (by omega) (by omega)] at c
    exact congrArg (fun x => some (vi x)) (done (by omega))
  · have c : nI most ≤ I1 8 0 6 := c
    rw [q3.1, nI_leI (by omega) (by omega)] at c
    omega
  · have c1 : ¬ I1 8 0 8 = 0 := c1
    rw [q4] at c1
    have := q5 (bi_t c1)
    exact congrArg (fun x => some (vi x)) (done (by omega))
  · have c1 : ¬ I1 8 0 8 = 0 := c1
    rw [q4] at c1
    have := q5 (bi_t c1)
    omega
  · rintro r σ ⟨I2, J2, rfl, rfl, ⟨r1, r2⟩, r3, r4⟩
    rw [eS] at r1 r2
    rw [t300, Nat.min_eq_left h3] at r1 r2
    have hlt2 : (List.take most (hst ev L 0)).length = min most (hst ev L 0).length := List.length_take
    have hc := k2'.L r3 r1 r2 (fun e => by have := of_decide_eq_true e; omega)
    refine ⟨by omega, rfl, trivial, ?_, I2, J2, rfl, k1.L r3 hc, hc, ⟨most, r1, by omega⟩, k3.tr r3.F, k4.tr r3.K⟩
    show some (vi (if nI most < I2 8 0 6 then nI most else I2 8 0 6)) = _
    rw [r1.1, mnI (by omega) (by omega)]
    exact congrArg (fun x => some (vi (nI x))) (by omega)
set_option maxRecDepth 10000 in
theorem c_hasHistoryWithout (I : SI) (J : SJ) (ev g : Nat) (L : List Ob) (h : FI I J ev L) (hg : g < 2 ^ 31) (d : Nat) (hd : 19 < d) : Tri d YX2_hasHistoryWithout 117 [vr 7 0, vi (nI g)] (S0 I J) (fun r σ => r = some (vi (bi (decide (0 < (hst ev L g).length)))) ∧ ∃ I1 J1, σ = S0 I1 J1 ∧ FI I1 J1 ev L ∧ LST I1 J1 1 ev ((hst ev L g).take 1) ∧ frT I I1 ∧ ∀ k, k ≠ 1 → J1 k = J k) := by
  refine Tri.of (M := MX2_hasHistoryWithout) k_X2_hasHistoryWithout ⟨Nat.le_refl _, Nat.le_refl _⟩ (Nat.le_of_ble_eq_true rfl) ?_
  have h5 := h.2.1.2.2.2.2.1
  have hw := h.2.2.1
  have hs := tol_sym (g := g.testBit) hw
  refine Sat.of k_X2_hasHistoryWithout [] 60 ?_
  refine ⟨3, 117, by omega, Nat.le_refl _, (c_tell I J 3 1 ev g L h.1 h.2.1 hw hg 3 (by decide)).mono ?_⟩
  rintro r σ ⟨rfl, I1, rfl, ⟨bar, q1, q2⟩, q3⟩
  refine ⟨3, 117, by omega, Nat.le_refl _, (c_close I1 J 3 ev 1023 (tol L g.testBit) bar (h.1.fr q3) q1 hs (fun e => nz_not.mpr (fun z => absurd (q2.mpr z) (by rw [e]; decide))) q2.mp (by decide) (fun _ => INV.all q1.2.2.2.1) 3 (by decide)).mono ?_⟩
  rintro r σ ⟨rfl, Nc, bc, I2, rfl, r1, r2, r3⟩
  refine ⟨19, 117, hd, Nat.le_refl _, (c_find I2 J 1 ev 1 Nc bc ((h.1.fr q3).fr r2) r1 (by decide) (by decide) 19 (by decide)).mono ?_⟩
  rintro r σ ⟨I3, J3, rfl, rfl, ⟨s1, s2⟩, s3, s4⟩
  have eS : sols ev Nc = hst ev L g := (r3.sols h5 hs).symm
  have t1 : tlen 14 1 = 1 := rfl
  rw [eS] at s1 ⊢
  rw [t1] at s1 ⊢
  have hf : frT I I3 := ((q3.tr r2).T (Or.inr rfl)).tr s3.T
  refine ⟨fun c => ⟨rfl, Or.inl rfl, ?_, I3, J3, rfl, h.frT hf s4, s1, hf, s4⟩, fun c => ⟨rfl, Or.inr rfl, ?_, I3, J3, rfl, h.frT hf s4, s1, hf, s4⟩⟩
  · have c : nI (min (hst ev L g).length (min 1 1)) ≤ nI 0 := c
    rw [nI_leI (by omega) (by decide)] at c
    rw [decide_eq_false (by omega)]
    rfl
  · have c : ¬ nI (min (hst ev L g).length (min 1 1)) ≤ nI 0 := c
    rw [nI_leI (by omega) (by decide)] at c
    rw [decide_eq_true (by omega)]
    rfl
