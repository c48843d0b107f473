/-! The class: sees, forget -/
theorem CR.S {I I1 : SI} {J : SJ} {ev : Nat} {L : List Ob} {H : List (List Ob)} {img : Nat → List Ob} {kp : Nat → Bool} {S S1 : List Ob} {n : Nat} {t : Nat → Nat} (h : CR I J (ev, L, H, img, kp, S, n, t)) (hf : frS I I1) (hs : SNP I1 S1) (hw : WFs ev S1) : CR I1 J (ev, L, H, img, kp, S1, n, t) := by
  obtain ⟨⟨a1, a2, a3, kc, a4, a6⟩, ⟨kr, r1, r2⟩, h3, h4, h5, h6, h7, h8⟩ := h
  refine ⟨⟨?_, ?_, a3, kc, by rw [hf 7 0 (by omega)]; exact a4, fun q => (a6 q).k (hf 16 1 (by omega)) (hf 17 1 (by omega)) (hf 8 0 (by omega)) (hf 15 0 (by omega)) rfl⟩, ⟨kr, by rw [hf 7 0 (by omega)]; exact r1, fun q x y hx hy => by rw [hf 17 2 (by omega)]; exact r2 q x y hx hy⟩, ?_, h4, hs, hw, ?_, fun b hb => ?_⟩
  · unfold ALG at a1 ⊢
    rw [hf 1 0 (by omega), hf 2 0 (by omega)]
    exact a1
  · unfold BK at a2 ⊢
    rw [hf 3 1 (by omega), hf 4 1 (by omega), hf 5 1 (by omega), hf 6 1 (by omega)]
    exact a2
  · obtain ⟨π, p1, p2, p3, p4⟩ := h3
    refine ⟨π, ?_, by rw [hf 18 0 (by omega)]; exact p2, p3, fun j hj => ?_⟩
    · unfold PRM at p1 ⊢
      rw [hf 19 0 (by omega)]
      exact p1
    · have := p4 j hj
      unfold BK at this ⊢
      rw [hf 3 _ (by omega), hf 4 _ (by omega), hf 5 _ (by omega), hf 6 _ (by omega)]
      exact this
  · unfold LTR at h7 ⊢
    rw [hf 25 0 (by omega), hf 26 0 (by omega)]
    exact h7
  · obtain ⟨q1, q2⟩ := h8 b hb
    refine ⟨by rw [hf 28 0 (by omega)]; exact q1, fun q => ⟨?_, (q2 q).2⟩⟩
    have := (q2 q).1
    unfold BK at this ⊢
    rw [hf 3 _ (by omega), hf 4 _ (by omega), hf 5 _ (by omega), hf 6 _ (by omega)]
    exact this
set_option maxRecDepth 10000 in
theorem c_forget (I : SI) (J : SJ) (s : SS) (h : CR I J s) (d : Nat) : Tri d YX8_forget 117 [vr 25 0] (S0 I J) (fun r σ => r = some (vi (oForget s).1) ∧ ∃ I1, σ = S0 I1 J ∧ CR I1 J (oForget s).2 ∧ frC I I1) := by
  refine Tri.of (M := MX8_forget) k_X8_forget ⟨Nat.le_refl _, Nat.le_refl _⟩ (Nat.le_of_ble_eq_true rfl) ?_
  obtain ⟨ev, L, H, img, kp, S, n, t⟩ := s
  have hs : SNP I S := h.2.2.2.2.1
  refine Sat.of k_X8_forget [] 60 ?_
  refine ⟨rfl, trivial, ?_, uI I 21 0 3 0, rfl, h.S (fun a b q => uI_tt (by omega)) ⟨uI_at, by simp, fun j hj => absurd hj (by simp)⟩ (fun j hj => absurd hj (by simp)), fun a b q => uI_tt (by omega)⟩
  show some (vi (I 21 0 3)) = _
  rw [hs.1]
  rfl
