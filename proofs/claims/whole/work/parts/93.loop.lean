/-! The law: over the script, and from the beginning -/
set_option maxRecDepth 10000 in
theorem l_loop {L : Nat} {xs : Nat → Int32} (hL : L < 2 ^ 31) {d : Nat} (hd : 22 < d) {Q : Option AV → ST → Prop} (hQ : ∀ I J, Q (some (vi 1)) (S0 I J)) : ∀ (m i : Nat) (I : SI) (J : SJ) (s : SS), i ≤ L → L ≤ i + m → CR I J s → MR I s → Sat (some (L, xs)) ML_law d 117 Q 18 [some (vr 65 0), some (vr 25 0), some (vr 29 0), some (vi (nI i))] [] (S0 I J) := by
  intro m
  induction m with
  | zero =>
    intro i I J s hi hm h hmr
    refine Sat.of k_L_law [18, 719] 60 ?_
    refine ⟨fun _ => ⟨rfl, Or.inr rfl, hQ I J⟩, fun c => absurd ?_ c⟩
    by_cases h4 : L < 4
    · exact lt_l4 L h4 i hi
    · show nI L - 4 < nI i
      rw [show (4 : Int32) = nI 4 from rfl, pk_sub (by omega), nI_ltI (by omega) (by omega)]
      omega
  | succ m ih =>
    intro i I J s hi hm h hm
    by_cases h4 : L < i + 4
    · refine Sat.of k_L_law [18, 719] 60 ?_
      refine ⟨fun _ => ⟨rfl, Or.inr rfl, hQ I J⟩, fun c => absurd ?_ c⟩
      by_cases h4 : L < 4
      · exact lt_l4 L h4 i hi
      · show nI L - 4 < nI i
        rw [show (4 : Int32) = nI 4 from rfl, pk_sub (by omega), nI_ltI (by omega) (by omega)]
        omega
    · have go : ∀ I J s, CR I J s → MR I s → Sat (some (L, xs)) ML_law d 117 Q 719 [some (vr 65 0), some (vr 25 0), some (vr 29 0), some (vi (nI i))] [] (S0 I J) := fun I J s h hm => by
        refine Sat.of k_L_law [18] 60 ?_
        refine (ih (i + 4) I J s (by omega) (by omega) h hm).to ?_ rfl
        rw [← nI_add]
        rfl
      have v0 : vp_in (nI i) L := vp_in_nI (by omega) hL
      have v1 : vp_in (nI i + 1) L := by rw [show (1 : Int32) = nI 1 from rfl, nI_add]; exact vp_in_nI (by omega) hL
      have v2 : vp_in (nI i + 2) L := by rw [show (2 : Int32) = nI 2 from rfl, nI_add]; exact vp_in_nI (by omega) hL
      have v3 : vp_in (nI i + 3) L := by rw [show (3 : Int32) = nI 3 from rfl, nI_add]; exact vp_in_nI (by omega) hL
      refine Sat.of k_L_law [140, 163, 176, 189, 222, 265, 288, 321, 334, 357, 390, 433, 456, 499, 532, 555, 568, 581, 624, 637, 650, 673, 696, 719] 60 ?_
      refine ⟨fun c => absurd c ?_, fun _ => ⟨v0, ⟨fun _ => l_type hd v1 v2 v3 go I J s h hm, fun _ => l_clear hd v1 v2 v3 go I J s h hm, fun _ => l_tells hd v1 v2 v3 go I J s h hm, fun _ => l_observed hd v1 v2 v3 go I J s h hm, fun _ => l_adds hd v1 v2 v3 go I J s h hm, fun _ => l_takes hd v1 v2 v3 go I J s h hm, fun _ => l_turns hd v1 v2 v3 go I J s h hm, fun _ => l_undo hd v1 v2 v3 go I J s h hm, fun _ => l_turned hd v1 v2 v3 go I J s h hm, fun _ => l_composed hd v1 v2 v3 go I J s h hm, fun _ => l_left hd v1 v2 v3 go I J s h hm, fun _ => l_many hd v1 v2 v3 go I J s h hm, fun _ => l_history hd v1 v2 v3 go I J s h hm, fun _ => l_point hd v1 v2 v3 go I J s h hm, fun _ => l_wrong hd v1 v2 v3 go I J s h hm, fun _ => l_eldest hd v1 v2 v3 go I J s h hm, fun _ => l_next hd v1 v2 v3 go I J s h hm, fun _ => l_sees hd v1 v2 v3 go I J s h hm, fun _ => l_forget hd v1 v2 v3 go I J s h hm, fun _ => l_unseen hd v1 v2 v3 go I J s h hm, fun _ => l_keep hd v1 v2 v3 go I J s h hm, fun _ => l_back hd v1 v2 v3 go I J s h hm, fun _ => l_count hd v1 v2 v3 go I J s h hm, trivial⟩, fun _ _ _ _ _ _ _ _ _ _ _ _ _ _ _ _ _ _ _ _ _ _ _ => go I J s h hm⟩⟩
      show ¬ nI L - 4 < nI i
      rw [show (4 : Int32) = nI 4 from rfl, pk_sub (by omega), nI_ltI (by omega) (by omega)]
      omega
set_option maxRecDepth 10000 in
theorem l_law {L : Nat} {xs : Nat → Int32} (hL : L < 2 ^ 31) {d : Nat} (hd : 22 < d) {Q : Option AV → ST → Prop} (hQ : ∀ I J, Q (some (vi 1)) (S0 I J)) (I : SI) (J : SJ) (A : SA) : Sat (some (L, xs)) ML_law d 117 Q 0 [some (vr 65 0), none, none, none] [] (I, J, 0, A) := by
  refine Sat.of k_L_law [18] 60 ?_
  refine ⟨25, 0, rfl, rfl, by omega, 3, 95, by omega, Nat.le_of_ble_eq_true rfl, (i_ages (zI I 25 0) J (zA A 25 0) 3 (by decide)).mono ?_⟩
  rintro r σ ⟨rfl, I1, J1, A1, rfl, q1, q2, q3⟩
  refine ⟨29, 0, rfl, rfl, by omega, 3, 117, by omega, Nat.le_of_ble_eq_true rfl, (i_model (zI I1 29 0) J1 (zA A1 29 0) q3.z 3 (by decide)).mono ?_⟩
  rintro r σ ⟨rfl, I2, rfl, k1, k2, k3, k4, k5, k6⟩
  have e : ∀ a b, a < 29 → I2 a b = I1 a b := fun a b q => by rw [k6 a b q, zI_ne2 (by omega)]
  have hc : CR I1 J1 s00 := CR.start q1 (by rw [q2, zI_at])
  exact (l_loop hL hd hQ L 0 I2 J1 s00 (Nat.zero_le _) (by omega) (hc.K e) (MR.start k1 k2 (fun j hj => by rw [k3 j hj, zI_at]) k4 k5)).to rfl rfl
