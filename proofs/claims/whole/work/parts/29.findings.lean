/-! Findings: told, closed, histories -/
theorem tol_sym {ev : Nat} {L : List Ob} {g : Nat → Bool} (hw : WFo ev L) : SYM ev (tol L g) := ⟨fun _ _ _ _ => ⟨tolN_sym hw (Nat.le_refl _), tolN_lt⟩, fun a _ => by unfold tol tolN; rw [if_pos rfl]⟩
/-- the histories that agree with all -/
def hst (ev : Nat) (L : List Ob) (g : Nat) : List HS := sols ev (tol L g.testBit)
def orL (x y : Nat) : List HS → Nat
  | [] => 0
  | l :: t => 2 ^ relH l x y ||| orL x y t
theorem orL_bit {x y c : Nat} : ∀ {T : List HS}, (orL x y T).testBit c = true ↔ ∃ l, l ∈ T ∧ relH l x y = c
  | [] => by simp [orL]
  | l :: t => by
    simp only [orL]
    rw [Nat.testBit_or, Bool.or_eq_true, orL_bit, pow_bit]
    constructor
    · rintro (h | ⟨l1, h1, h2⟩)
      · exact ⟨l, List.mem_cons_self, h⟩
      · exact ⟨l1, List.mem_cons_of_mem _ h1, h2⟩
    · rintro ⟨l1, h1, h2⟩
      rcases List.mem_cons.mp h1 with e | e
      · exact Or.inl (by rw [← e]; exact h2)
      · exact Or.inr ⟨l1, e, h2⟩
/-- what is really left -/
def rly (T : List HS) (x y : Nat) : Nat := if x = y then (if T.length = 0 then 0 else 64) else orL x y T
def FIc (I : SI) (J : SJ) (ev : Nat) (L : List Ob) : Prop := ∃ Nc bc w fa, NT I 1 ev Nc bc ∧ IsCl ev (tol L (Nat.testBit 0)) Nc bc ∧ LST I J 0 ev ((hst ev L 0).take w) ∧ I 8 0 8 = bi fa ∧ (fa = true → (hst ev L 0).length ≤ w)
def FIr (I : SI) (ev : Nat) (L : List Ob) : Prop := ∀ x y, x < ev → y < ev → I 17 2 (5 * x + y) = nI (rly (hst ev L 0) x y)
/-- the findings of the book -/
def FI (I : SI) (J : SJ) (ev : Nat) (L : List Ob) : Prop := ALG I ∧ BK I 1 ev L ∧ WFo ev L ∧ ∃ kc, I 7 0 8 = bi kc ∧ (kc = true → FIc I J ev L)
/-- what is really left is known, or not -/
def FR (I : SI) (ev : Nat) (L : List Ob) : Prop := ∃ kr, I 7 0 9 = bi kr ∧ (kr = true → FIr I ev L)
def KR (I I1 : SI) : Prop := I1 7 0 9 = I 7 0 9 ∧ I1 17 2 = I 17 2 ∧ I1 16 2 = I 16 2
theorem KR.rf {I : SI} : KR I I := ⟨rfl, rfl, rfl⟩
theorem KR.tr {I I1 I2 : SI} (h : KR I I1) (h1 : KR I1 I2) : KR I I2 := ⟨h1.1.trans h.1, h1.2.1.trans h.2.1, h1.2.2.trans h.2.2⟩
theorem FR.k {I I1 : SI} {ev : Nat} {L : List Ob} (h : FR I ev L) (hk : KR I I1) : FR I1 ev L := by
  obtain ⟨kr, q1, q2⟩ := h
  exact ⟨kr, by rw [hk.1]; exact q1, fun e x y hx hy => by rw [hk.2.1]; exact q2 e x y hx hy⟩
/-- nothing but findings has changed -/
def frF (I I1 : SI) : Prop := ∀ t k, ¬ (7 ≤ t ∧ t ≤ 17) → I1 t k = I t k
theorem frF.rf {I : SI} : frF I I := fun _ _ _ => rfl
theorem frF.tr {I I1 I2 : SI} (h : frF I I1) (h1 : frF I1 I2) : frF I I2 := fun t k hk => (h1 t k hk).trans (h t k hk)
theorem frN.F {n : Nat} {I I1 : SI} (h : frN n I I1) : frF I I1 := fun t k hk => h t k (by omega)
theorem frL.F {n : Nat} {I I1 : SI} (h : frL n I I1) : frF I I1 := fun t k hk => h t k (by omega)
/-- nothing but trials has changed -/
def frT (I I1 : SI) : Prop := ∀ t k, ¬ ((t = 16 ∨ t = 17) ∧ (k = 0 ∨ k = 3)) → ¬ (8 ≤ t ∧ t ≤ 15 ∧ (k = 1 ∨ (t = 10 ∧ k / 5 = 1))) → I1 t k = I t k
theorem frT.rf {I : SI} : frT I I := fun _ _ _ _ => rfl
theorem frT.tr {I I1 I2 : SI} (h : frT I I1) (h1 : frT I1 I2) : frT I I2 := fun t k hk hk1 => (h1 t k hk hk1).trans (h t k hk hk1)
theorem frT.F {I I1 : SI} (h : frT I I1) : frF I I1 := fun t k hk => h t k (by omega) (by omega)
theorem frN.T {n : Nat} {I I1 : SI} (h : frN n I I1) (hn : n = 0 ∨ n = 3) : frT I I1 := fun t k hk _ => h t k (by omega)
theorem frL.T {I I1 : SI} (h : frL 1 I I1) : frT I I1 := fun t k _ hk => h t k hk
theorem LST.fr {I I1 : SI} {J J1 : SJ} {m ev : Nat} {H : List HS} (h : LST I J m ev H) (h8 : I1 8 m = I 8 m) (h15 : I1 15 m = I 15 m) (hj : J1 m = J m) : LST I1 J1 m ev H := by
  obtain ⟨q1, q2, q3, q4⟩ := h
  refine ⟨by rw [h8]; exact q1, q2, fun k hk => by rw [hj]; exact q3 k hk, fun q => ?_⟩
  unfold TMS
  rw [h15]
  exact q4 q
theorem FI.frT {I I1 : SI} {J J1 : SJ} {ev : Nat} {L : List Ob} (h : FI I J ev L) (hf : frT I I1) (hj : ∀ k, k ≠ 1 → J1 k = J k) : FI I1 J1 ev L := by
  obtain ⟨a1, a2, a3, kc, a4, a6⟩ := h
  refine ⟨?_, ?_, a3, kc, by rw [hf 7 0 (by omega) (by omega)]; exact a4, fun q => ?_⟩
  · unfold ALG at a1 ⊢
    rw [hf 1 0 (by omega) (by omega), hf 2 0 (by omega) (by omega)]
    exact a1
  · unfold BK at a2 ⊢
    rw [hf 3 1 (by omega) (by omega), hf 4 1 (by omega) (by omega), hf 5 1 (by omega) (by omega), hf 6 1 (by omega) (by omega)]
    exact a2
  · obtain ⟨Nc, bc, w, fa, q1, q2, q3, q4, q5⟩ := a6 q
    refine ⟨Nc, bc, w, fa, ?_, q2, q3.fr (hf 8 0 (by omega) (by omega)) (hf 15 0 (by omega) (by omega)) (hj 0 (by decide)), by rw [hf 8 0 (by omega) (by omega)]; exact q4, q5⟩
    unfold NT at q1 ⊢
    rw [hf 16 1 (by omega) (by omega), hf 17 1 (by omega) (by omega)]
    exact q1
theorem frT.K {I I1 : SI} (h : frT I I1) : KR I I1 := ⟨by rw [h 7 0 (by omega) (by omega)], h 17 2 (by omega) (by omega), h 16 2 (by omega) (by omega)⟩
set_option maxRecDepth 10000 in
theorem c_forgetAll (I : SI) (J : SJ) (d : Nat) : Tri d YX2_forgetAll 117 [vr 7 0] (S0 I J) (fun r σ => r = none ∧ σ = S0 (uI (uI I 7 0 8 0) 7 0 9 0) J) := by
  refine Tri.of (M := MX2_forgetAll) k_X2_forgetAll ⟨Nat.le_refl _, Nat.le_refl _⟩ (Nat.le_of_ble_eq_true rfl) ?_
  refine Sat.of k_X2_forgetAll [] 60 ?_
  exact ⟨Or.inl rfl, Or.inl rfl, rfl, rfl, rfl, rfl⟩
set_option maxRecDepth 10000 in
theorem c_toldNet (I : SI) (J : SJ) (ev : Nat) (L : List Ob) (h : FI I J ev L) (d : Nat) (hd : 3 < d) : Tri d YX2_toldNet 117 [vr 7 0] (S0 I J) (fun r σ => r = some (vr 16 0) ∧ ∃ I1, σ = S0 I1 J ∧ NTZ I1 0 ev (tol L (Nat.testBit 0)) ∧ FI I1 J ev L ∧ frF I I1 ∧ KR I I1) := by
  refine Tri.of (M := MX2_toldNet) k_X2_toldNet ⟨Nat.le_refl _, Nat.le_refl _⟩ (Nat.le_of_ble_eq_true rfl) ?_
  refine Sat.of k_X2_toldNet [] 60 ?_
  refine ⟨3, 117, hd, Nat.le_refl _, (c_tell I J 0 1 ev 0 L h.1 h.2.1 h.2.2.1 (by decide) 3 (by decide)).mono ?_⟩
  rintro r σ ⟨rfl, I1, rfl, q1, q2⟩
  exact ⟨rfl, rfl, rfl, I1, rfl, q1, h.frT (q2.T (Or.inl rfl)) (fun _ _ => rfl), q2.F, (q2.T (Or.inl rfl)).K⟩
set_option maxRecDepth 10000 in
theorem c_closedNet (I : SI) (J : SJ) (ev : Nat) (L : List Ob) (h : FI I J ev L) (d : Nat) (hd : 3 < d) : Tri d YX2_closedNet 117 [vr 7 0] (S0 I J) (fun r σ => r = some (vr 16 1) ∧ ∃ I1, σ = S0 I1 J ∧ FI I1 J ev L ∧ FIc I1 J ev L ∧ frF I I1 ∧ KR I I1) := by
  refine Tri.of (M := MX2_closedNet) k_X2_closedNet ⟨Nat.le_refl _, Nat.le_refl _⟩ (Nat.le_of_ble_eq_true rfl) ?_
  have hF := h
  obtain ⟨a1, a2, a3, kc, a4, a6⟩ := h
  refine Sat.of k_X2_closedNet [] 60 ?_
  refine ⟨fun c => ⟨rfl, rfl, rfl, I, rfl, hF, ?_, frF.rf, KR.rf⟩, fun c => ⟨3, 117, hd, Nat.le_refl _, (c_tell I J 1 1 ev 0 L a1 a2 a3 (by decide) 3 (by decide)).mono ?_⟩⟩
  · have c : ¬ I 7 0 8 = 0 := c
    rw [a4] at c
    exact a6 (bi_t c)
  · rintro r σ ⟨rfl, I1, rfl, ⟨bar, q1, q2⟩, q3⟩
    have hs := tol_sym (g := Nat.testBit 0) a3
    refine ⟨3, 117, hd, Nat.le_refl _, (c_close I1 J 1 ev 1023 (tol L (Nat.testBit 0)) bar (a1.fr q3) q1 hs (fun e => nz_not.mpr (fun z => absurd (q2.mpr z) (by rw [e]; decide))) q2.mp (by decide) (fun _ => INV.all q1.2.2.2.1) 3 (by decide)).mono ?_⟩
    rintro r σ ⟨rfl, Nc, bc, I2, rfl, r1, r2, r3⟩
    refine ⟨0, 117, by omega, Nat.le_refl _, (c_lineDrop I2 J 0 0).mono ?_⟩
    rintro r σ ⟨rfl, rfl⟩
    generalize hI3 : uI (uI (uI I2 8 0 6 0) 8 0 8 0) 7 0 8 1 = I3
    have f3 : ∀ t k, ¬ (t = 7 ∧ k = 0) → ¬ (t = 8 ∧ k = 0) → I3 t k = I2 t k := fun t k h1 h2 => by
      rw [← hI3, uI_ne (fun q => h1 (by cases q; exact ⟨rfl, rfl⟩)), uI_ne (fun q => h2 (by cases q; exact ⟨rfl, rfl⟩)), uI_ne (fun q => h2 (by cases q; exact ⟨rfl, rfl⟩))]
    have f12 : frN 1 I I2 := q3.tr r2
    have ff : ∀ t k, ¬ (t = 7 ∧ k = 0) → ¬ (t = 8 ∧ k = 0) → ¬ ((t = 16 ∨ t = 17) ∧ k = 1) → I3 t k = I t k := fun t k h1 h2 h3 => (f3 t k h1 h2).trans (f12 t k h3)
    have hc : FIc I3 J ev L := by
      refine ⟨Nc, bc, 0, false, ?_, r3, ⟨?_, by simp, fun k hk => absurd hk (by simp), fun q => absurd q (by simp)⟩, ?_, fun q => absurd q (by decide)⟩
      · unfold NT at r1 ⊢
        rw [f3 16 1 (by omega) (by omega), f3 17 1 (by omega) (by omega)]
        exact r1
      · rw [← hI3, uI_t (by decide), uI_j (by decide), uI_at]
        rfl
      · rw [← hI3, uI_t (by decide), uI_at]
        rfl
    have h79 : I3 7 0 9 = I 7 0 9 := by rw [← hI3, uI_j (by decide), uI_t (by decide), uI_t (by decide), f12 7 0 (by omega)]
    refine ⟨Or.inr rfl, rfl, rfl, rfl, I3, ?_, ⟨?_, ?_, a3, true, ?_, fun _ => hc⟩, hc, fun t k hk => ff t k (by omega) (by omega) (by omega), h79, ff 17 2 (by omega) (by omega) (by omega), ff 16 2 (by omega) (by omega) (by omega)⟩
    · show (uI (uI (uI I2 8 0 6 0) 8 0 8 0) 7 0 8 1, J, 117, aT) = _
      rw [hI3]
    · unfold ALG at a1 ⊢
      rw [ff 1 0 (by omega) (by omega) (by omega), ff 2 0 (by omega) (by omega) (by omega)]
      exact a1
    · unfold BK at a2 ⊢
      rw [ff 3 1 (by omega) (by omega) (by omega), ff 4 1 (by omega) (by omega) (by omega), ff 5 1 (by omega) (by omega) (by omega), ff 6 1 (by omega) (by omega) (by omega)]
      exact a2
    · rw [← hI3, uI_at]
      rfl
