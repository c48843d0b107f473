/-! The model's state -/
def LD (I : SI) (ev : Nat) (L : List Ob) : Prop := I 29 0 19 = bi (decide (0 < (hst ev L 0).length)) ∧ (0 < (hst ev L 0).length → ∀ p, p < PRb 0 ev → I 45 0 p = nI (nthD (hst ev L 0) 0 h00 p)) ∧ (∀ p, p < PRb 0 ev → I 44 0 p = nI (rly (hst ev L 0) (loT p) (hiT p))) ∧ ∃ N b, IsCl ev (tol L (Nat.testBit 0)) N b ∧ ∀ x y, x < ev → y < ev → I 43 0 (ev * x + y) = nI (N x y)
def LAY (I : SI) (ev : Nat) (L : List Ob) : Prop := ∃ ld, I 29 0 18 = bi ld ∧ (ld = true → LD I ev L)
def MPT (I : SI) (H : List (List Ob)) : Prop := I 29 0 3 = nI H.length ∧ H.length ≤ 8 ∧ ∀ j, j < H.length → RW I 32 (25 * j) (nthD H j [])
def MKP (I : SI) (img : Nat → List Ob) (kp : Nat → Bool) : Prop := ∀ b, b < 2 → I 34 0 b = bi (kp b) ∧ (kp b = true → RW I 33 (25 * b) (img b))
def MSN (I : SI) (S : List Ob) : Prop := I 29 0 10 = nI S.length ∧ S.length ≤ 6 ∧ ∀ j, j < S.length → I 35 0 j = nI (nthD S j (0, 0, 0)).1 ∧ I 36 0 j = nI (nthD S j (0, 0, 0)).2.1 ∧ I 37 0 j = nI (nthD S j (0, 0, 0)).2.2
def MTX (I : SI) (n : Nat) (t : Nat → Nat) : Prop := I 29 0 22 = nI n ∧ n ≤ 160 ∧ ∀ i, i < n → I 46 0 i = nI (t i) ∧ t i ≤ 255
def WFI (ev : Nat) (img : Nat → List Ob) (kp : Nat → Bool) : Prop := ∀ b, b < 2 → kp b = true → WFo ev (img b)
def MR (I : SI) (s : SS) : Prop := match s with
  | (ev, L, H, img, kp, S, n, t) => MB I ev L ∧ LAY I ev L ∧ MPT I H ∧ WFH ev H ∧ MKP I img kp ∧ WFI ev img kp ∧ MSN I S ∧ WFs ev S ∧ MTX I n t
def frK (I I1 : SI) : Prop := ∀ a b, a < 29 → I1 a b = I a b
theorem frK.rf {I : SI} : frK I I := fun _ _ _ => rfl
theorem frM.K {I I1 : SI} (h : frM I I1) : frK I I1 := fun a b q => h a b (by omega)
theorem LAY.k {I I1 : SI} {ev : Nat} {L : List Ob} (h : LAY I ev L) (hf : ∀ a b, (a = 29 ∨ (43 ≤ a ∧ a ≤ 45)) → I1 a b = I a b) : LAY I1 ev L := by
  obtain ⟨ld, h1, h2⟩ := h
  refine ⟨ld, by rw [hf 29 0 (by omega)]; exact h1, fun q => ?_⟩
  have := h2 q
  unfold LD at this ⊢
  rw [hf 29 0 (by omega), hf 43 0 (by omega), hf 44 0 (by omega), hf 45 0 (by omega)]
  exact this
theorem RW.k {I I1 : SI} {t o : Nat} {L : List Ob} (h : RW I t o L) (hf : I1 t 0 = I t 0) : RW I1 t o L := by
  unfold RW at h ⊢
  rw [hf]
  exact h
theorem MPT.k {I I1 : SI} {H : List (List Ob)} (h : MPT I H) (h3 : I1 29 0 3 = I 29 0 3) (hf : I1 32 0 = I 32 0) : MPT I1 H := by
  unfold MPT at h ⊢
  rw [h3]
  exact ⟨h.1, h.2.1, fun j hj => (h.2.2 j hj).k hf⟩
theorem MKP.k {I I1 : SI} {img : Nat → List Ob} {kp : Nat → Bool} (h : MKP I img kp) (h3 : I1 34 0 = I 34 0) (hf : I1 33 0 = I 33 0) : MKP I1 img kp := fun b hb => by
  rw [h3]
  exact ⟨(h b hb).1, fun q => ((h b hb).2 q).k hf⟩
theorem MSN.k {I I1 : SI} {S : List Ob} (h : MSN I S) (h3 : I1 29 0 10 = I 29 0 10) (h5 : I1 35 0 = I 35 0) (h6 : I1 36 0 = I 36 0) (h7 : I1 37 0 = I 37 0) : MSN I1 S := by
  unfold MSN at h ⊢
  rw [h3, h5, h6, h7]
  exact h
theorem MTX.k {I I1 : SI} {n : Nat} {t : Nat → Nat} (h : MTX I n t) (h3 : I1 29 0 22 = I 29 0 22) (hf : I1 46 0 = I 46 0) : MTX I1 n t := by
  unfold MTX at h ⊢
  rw [h3, hf]
  exact h
theorem MR.k {I I1 : SI} {s : SS} (h : MR I s) (hf : ∀ a b, 29 ≤ a → ¬ (a = 41 ∨ a = 42) → I1 a b = I a b) : MR I1 s := by
  obtain ⟨ev, L, H, img, kp, S, n, t⟩ := s
  obtain ⟨h1, h2, h3, h4, h5, h6, h7, h8, h9⟩ := h
  have e29 := hf 29 0 (by omega) (by omega)
  exact ⟨h1.k (fun a b q => hf a b (by omega) (by omega)), h2.k (fun a b q => hf a b (by omega) (by omega)), h3.k (by rw [e29]) (hf 32 0 (by omega) (by omega)), h4, h5.k (hf 34 0 (by omega) (by omega)) (hf 33 0 (by omega) (by omega)), h6, h7.k (by rw [e29]) (hf 35 0 (by omega) (by omega)) (hf 36 0 (by omega) (by omega)) (hf 37 0 (by omega) (by omega)), h8, h9.k (by rw [e29]) (hf 46 0 (by omega) (by omega))⟩
theorem MR.fr {I I1 : SI} {s : SS} (h : MR I s) (hf : frM I I1) : MR I1 s := h.k (fun a b _ q => hf a b q)
theorem MR.C {I I1 : SI} {s : SS} (h : MR I s) (hf : frC I I1) : MR I1 s := h.k (fun a b q _ => hf a b q)
theorem CR.K {I I1 : SI} {J : SJ} {s : SS} (h : CR I J s) (hf : frK I I1) : CR I1 J s := by
  obtain ⟨ev, L, H, img, kp, S, n, t⟩ := s
  obtain ⟨⟨a1, a2, a3, kc, a4, a6⟩, ⟨kr, r1, r2⟩, h3, h4, h5, h6, h7, h8⟩ := h
  refine ⟨⟨?_, a2.same (fun t _ _ => hf t 1 (by omega)), a3, kc, by rw [hf 7 0 (by omega)]; exact a4, fun q => (a6 q).k (hf 16 1 (by omega)) (hf 17 1 (by omega)) (hf 8 0 (by omega)) (hf 15 0 (by omega)) rfl⟩, ⟨kr, by rw [hf 7 0 (by omega)]; exact r1, fun q x y hx hy => by rw [hf 17 2 (by omega)]; exact r2 q x y hx hy⟩, h3.k (fun a b q => hf a b (by omega)), h4, ?_, h6, ?_, fun b hb => ?_⟩
  · unfold ALG at a1 ⊢
    rw [hf 1 0 (by omega), hf 2 0 (by omega)]
    exact a1
  · unfold SNP at h5 ⊢
    rw [hf 21 0 (by omega), hf 22 0 (by omega), hf 23 0 (by omega), hf 24 0 (by omega)]
    exact h5
  · unfold LTR at h7 ⊢
    rw [hf 25 0 (by omega), hf 26 0 (by omega)]
    exact h7
  · obtain ⟨z1, z2⟩ := h8 b hb
    exact ⟨by rw [hf 28 0 (by omega)]; exact z1, fun q => ⟨(z2 q).1.same (fun t _ _ => hf t (10 + b) (by omega)), (z2 q).2⟩⟩
/-- the k-th history is tried -/
def CUR (N : NF) (P : Nat) (T : List HS) (k : Nat) (I : SI) : Prop := TRD I P (nthD T k h00) ∧ GOOD N P (nthD T k h00) ∧ rem N P (P - 1) (nthD T k h00 (P - 1) + 1) (nthD T k h00) = T.drop (k + 1)
theorem drop_cons {α : Type} {z : α} : ∀ {T : List α} {k : Nat}, k < T.length → T.drop k = nthD T k z :: T.drop (k + 1)
  | [], k, h => absurd h (by simp)
  | a :: T, 0, _ => by simp [nthD]
  | a :: T, k + 1, h => by
    have := drop_cons (z := z) (T := T) (k := k) (by simpa using h)
    simpa [nthD] using this
theorem NX.cur {N : NF} {P k : Nat} {T : List HS} {v : Option AV} {I : SI} (h : NX N P (T.drop k) v I) : v = some (vi (bi (decide (k < T.length)))) ∧ (k < T.length → CUR N P T k I) := by
  by_cases q : k < T.length
  · rw [drop_cons (z := h00) q] at h
    obtain ⟨h1, h2, h3, h4⟩ := h
    rw [decide_eq_true q]
    exact ⟨h1, fun _ => ⟨h2, h3, h4⟩⟩
  · rw [List.drop_eq_nil_of_le (by omega)] at h
    rw [decide_eq_false q]
    exact ⟨h, fun z => absurd z q⟩
theorem m_first1 (I : SI) (J : SJ) (ev : Nat) (N : NF) (hC : MC I) (hM : MAY I ev N) (hE : I 29 0 6 = nI ev) (h2 : 2 ≤ ev) (h5 : ev ≤ 5) (d : Nat) (hd : 2 < d) : Tri d YX9_isNext 117 [vr 29 0, vi 1] (S0 I J) (fun v σ => ∃ I1, σ = S0 I1 J ∧ fr42 I I1 ∧ v = some (vi (bi (decide (0 < (sols ev N).length)))) ∧ (0 < (sols ev N).length → CUR N (PRb 0 ev) (sols ev N) 0 I1)) := by
  refine (m_first I J ev N hC hM hE h2 h5 d hd).mono ?_
  rintro v σ ⟨I1, rfl, q1, q2⟩
  exact ⟨I1, rfl, q1, NX.cur (k := 0) q2⟩
theorem m_more1 (I : SI) (J : SJ) (ev k : Nat) (N : NF) (T : List HS) (hC : MC I) (hM : MAY I ev N) (hE : I 29 0 6 = nI ev) (h2 : 2 ≤ ev) (h5 : ev ≤ 5) (h : CUR N (PRb 0 ev) T k I) (d : Nat) (hd : 2 < d) : Tri d YX9_isNext 117 [vr 29 0, vi 0] (S0 I J) (fun v σ => ∃ I1, σ = S0 I1 J ∧ fr42 I I1 ∧ v = some (vi (bi (decide (k + 1 < T.length)))) ∧ (k + 1 < T.length → CUR N (PRb 0 ev) T (k + 1) I1)) := by
  refine (m_more I J ev N _ _ hC hM hE h2 h5 h.1 h.2.1 h.2.2 d hd).mono ?_
  rintro v σ ⟨I1, rfl, q1, q2⟩
  exact ⟨I1, rfl, q1, NX.cur (k := k + 1) q2⟩
set_option maxRecDepth 10000 in
theorem m_triedOf (I : SI) (J : SJ) (ev x y : Nat) (l : HS) (h : TRD I (PRb 0 ev) l) (h5 : ev ≤ 5) (hx : x < ev) (hy : y < ev) (hxy : x ≠ y) (d : Nat) (hd : 0 < d) : Tri d YX9_triedOf 117 [vr 29 0, vi (nI x), vi (nI y)] (S0 I J) (fun r σ => σ = S0 I J ∧ r = some (vi (nI (relH l x y)))) := by
  refine Tri.of (M := MX9_triedOf) k_X9_triedOf ⟨Nat.le_refl _, Nat.le_refl _⟩ (Nat.le_of_ble_eq_true rfl) ?_
  have p10 := PRb0_le ev (by omega)
  refine Sat.of k_X9_triedOf [] 60 ?_
  refine ⟨fun c => ?_, fun c => ?_⟩
  · have c : nI y ≤ nI x := c
    rw [nI_leI (by omega) (by omega)] at c
    have hq := pr0_lt ev (by omega) x hx y (by omega)
    obtain ⟨w1, w2⟩ := h _ hq
    refine ⟨0, 117, hd, Nat.le_refl _, (m_pairOf I J y x (by omega) (by omega) 0).mono ?_⟩
    rintro r σ ⟨rfl, rfl⟩
    refine ⟨vp_in_nI (by omega) (by decide), rfl, trivial, ?_⟩
    refine ⟨rfl, ?_⟩
    show some (vi ((12 : Int32) - I 42 0 (nI (PRb y x)).toNatClampNeg)) = _
    unfold relH
    rw [nI_clamp (by omega), w1, if_neg (by omega), show (12 : Int32) = nI 12 from rfl, pk_sub (by omega)]
  · have c : ¬ nI y ≤ nI x := c
    rw [nI_leI (by omega) (by omega)] at c
    have hq := pr0_lt ev (by omega) y hy x (by omega)
    obtain ⟨w1, w2⟩ := h _ hq
    refine ⟨0, 117, hd, Nat.le_refl _, (m_pairOf I J x y (by omega) (by omega) 0).mono ?_⟩
    rintro r σ ⟨rfl, rfl⟩
    refine ⟨vp_in_nI (by omega) (by decide), rfl, trivial, ?_⟩
    refine ⟨rfl, ?_⟩
    show some (vi (I 42 0 (nI (PRb x y)).toNatClampNeg)) = _
    unfold relH
    rw [nI_clamp (by omega), w1, if_pos (by omega)]
set_option maxRecDepth 10000 in
theorem m_isWithout (I : SI) (J : SJ) (ev g : Nat) (L : List Ob) (h : MB I ev L) (hg : g < 2 ^ 31) (d : Nat) (hd : 3 < d) : Tri d YX9_isWithout 117 [vr 29 0, vi (nI g)] (S0 I J) (fun v σ => ∃ I1, σ = S0 I1 J ∧ frM I I1 ∧ v = some (vi (bi (decide (0 < (hst ev L g).length)))) ∧ (0 < (hst ev L g).length → TRD I1 (PRb 0 ev) (nthD (hst ev L g) 0 h00))) := by
  refine Tri.of (M := MX9_isWithout) k_X9_isWithout ⟨Nat.le_refl _, Nat.le_refl _⟩ (Nat.le_of_ble_eq_true rfl) ?_
  have h5 := h.2.2.1
  refine Sat.of k_X9_isWithout [] 60 ?_
  refine ⟨2, 117, by omega, Nat.le_refl _, (m_lets I J ev g L h hg 2 (by decide)).mono ?_⟩
  rintro v σ ⟨rfl, I1, rfl, q1, q2⟩
  have h1 := h.fr q2.M
  refine ⟨3, 117, hd, Nat.le_refl _, (m_first1 I1 J ev _ h1.2.2.2.2.2 q1 h1.1 h.2.1 h5 3 (by decide)).mono ?_⟩
  rintro v σ ⟨I2, rfl, q3, rfl, q4⟩
  refine ⟨rfl, ?_, I2, rfl, q2.M.tr q3.M, rfl, fun q => (q4 q).1⟩
  exact bi_01 _
