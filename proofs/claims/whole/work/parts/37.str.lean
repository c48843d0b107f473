/-! Strings -/
set_option maxRecDepth 10000 in
theorem c_check3 (I : SI) (J : SJ) (i n : Nat) (q : Option (Nat × Nat)) (hi : i < n) (hn : n < 2 ^ 31) (d : Nat) : Tri d YJ3_checkIndex_8e157 117 [vi (nI i), vi (nI n), .inr (.inr q)] (S0 I J) (fun r σ => σ = S0 I J ∧ r = some (vi (nI i))) := by
  refine Tri.of (M := MJ3_checkIndex_8e157) k_J3_checkIndex_8e157 ⟨Nat.le_refl _, Nat.le_refl _⟩ (Nat.le_of_ble_eq_true rfl) ?_
  refine Sat.of k_J3_checkIndex_8e157 [] 60 ?_
  refine ⟨fun c => absurd (show nI 0 ≤ nI i from nI_le (by omega) (by omega)) (by rw [Int32.not_le]; exact c), fun c => ⟨fun c1 => ⟨rfl, trivial, rfl, rfl⟩, fun c1 => absurd (nI_lt hi hn) c1⟩⟩
set_option maxRecDepth 10000 in
theorem c_check (I : SI) (J : SJ) (i n : Nat) (hi : i < n) (hn : n < 2 ^ 31) (d : Nat) (hd : 0 < d) : Tri d YJ0_checkIndex_df160 117 [vi (nI i), vi (nI n)] (S0 I J) (fun r σ => σ = S0 I J ∧ r = none) := by
  refine Tri.of (M := MJ0_checkIndex_df160) k_J0_checkIndex_df160 ⟨Nat.le_refl _, Nat.le_refl _⟩ (Nat.le_of_ble_eq_true rfl) ?_
  refine Sat.of k_J0_checkIndex_df160 [] 60 ?_
  refine ⟨⟨0, 117, hd, Nat.le_refl _, (c_check3 I J i n (some (68, 0)) hi hn 0).mono ?_⟩, 0, 117, hd, Nat.le_refl _, (c_check3 I J i n none hi hn 0).mono ?_⟩
  · rintro r σ ⟨rfl, rfl⟩
    exact ⟨rfl, rfl, rfl, rfl⟩
  · rintro r σ ⟨rfl, rfl⟩
    exact ⟨rfl, rfl, rfl, rfl⟩
def chr (w i : Nat) : Nat := (nthD (nthD stxt w []) i 0).toNatClampNeg
theorem chr_t : ∀ w, w < 9 → ∀ i, i < nthD slen w 0 → ((nthD (nthD stxt w []) i 0 &&& 255).toUInt32 % 65536).toInt32 = nI (chr w i) ∧ chr w i < 256 := by decide +kernel
theorem slen_9 : ∀ w, w < 9 → 4 ≤ nthD slen w 0 ∧ nthD slen w 0 ≤ 8 := by decide +kernel
set_option maxRecDepth 10000 in
theorem c_latAt (I : SI) (J : SJ) (w i : Nat) (hw : w < 9) (hi : i < nthD slen w 0) (d : Nat) (hd : 1 < d) : Tri d YJ1_charAt_3b067 117 [vr 67 w, vi (nI i)] (S0 I J) (fun r σ => σ = S0 I J ∧ r = some (vi (nI (chr w i)))) := by
  refine Tri.of (M := MJ1_charAt_3b067) k_J1_charAt_3b067 ⟨Nat.le_refl _, Nat.le_refl _⟩ (Nat.le_of_ble_eq_true rfl) ?_
  have hl := slen_9 w hw
  refine Sat.of k_J1_charAt_3b067 [] 60 ?_
  refine ⟨1, 117, hd, Nat.le_refl _, (c_check I J i (nthD slen w 0) hi (by omega) 1 (by decide)).mono ?_⟩
  rintro r σ ⟨rfl, rfl⟩
  refine ⟨vp_in_nI hi (by omega), rfl, pk_nc _, rfl, ?_⟩
  show some (vi (((nthD (nthD stxt w []) (nI i).toNatClampNeg 0 &&& 255).toUInt32 % 65536).toInt32)) = _
  rw [nI_clamp (by omega), (chr_t w hw i hi).1]
set_option maxRecDepth 10000 in
theorem c_isLatin1 (I : SI) (J : SJ) (w : Nat) (d : Nat) : Tri d YJ0_isLatin1_aae02 117 [vr 66 w] (S0 I J) (fun r σ => σ = S0 I J ∧ r = some (vi 1)) := by
  refine Tri.of (M := MJ0_isLatin1_aae02) k_J0_isLatin1_aae02 ⟨Nat.le_refl _, Nat.le_refl _⟩ (Nat.le_of_ble_eq_true rfl) ?_
  refine Sat.of k_J0_isLatin1_aae02 [] 60 ?_
  refine ⟨fun c => absurd c (by decide), fun c => ⟨fun c1 => absurd rfl c1, fun c1 => ⟨rfl, Or.inr rfl, rfl, rfl⟩⟩⟩
set_option maxRecDepth 10000 in
theorem c_coder (I : SI) (J : SJ) (w : Nat) (d : Nat) : Tri d YJ0_coder_7d493 117 [vr 66 w] (S0 I J) (fun r σ => σ = S0 I J ∧ r = some (vi 0)) := by
  refine Tri.of (M := MJ0_coder_7d493) k_J0_coder_7d493 ⟨Nat.le_refl _, Nat.le_refl _⟩ (Nat.le_of_ble_eq_true rfl) ?_
  refine Sat.of k_J0_coder_7d493 [] 60 ?_
  refine ⟨fun c => absurd c (by decide), fun c => ⟨rfl, pk_nb 0, rfl, rfl⟩⟩
set_option maxRecDepth 10000 in
theorem c_len (I : SI) (J : SJ) (w : Nat) (hw : w < 9) (d : Nat) (hd : 0 < d) : Tri d YJ0_length_8abf5 117 [vr 66 w] (S0 I J) (fun r σ => σ = S0 I J ∧ r = some (vi (nI (nthD slen w 0)))) := by
  refine Tri.of (M := MJ0_length_8abf5) k_J0_length_8abf5 ⟨Nat.le_refl _, Nat.le_refl _⟩ (Nat.le_of_ble_eq_true rfl) ?_
  have hl := slen_9 w hw
  refine Sat.of k_J0_length_8abf5 [] 60 ?_
  refine ⟨0, 117, hd, Nat.le_refl _, (c_coder I J w 0).mono ?_⟩
  rintro r σ ⟨rfl, rfl⟩
  refine ⟨rfl, trivial, rfl, ?_⟩
  show some (vi (nI (nthD slen w 0) >>> ((nI 0) &&& 31))) = _
  rw [nx_shr (by omega) (by decide), Nat.pow_zero, Nat.div_one]
set_option maxRecDepth 10000 in
theorem c_charAt (I : SI) (J : SJ) (w i : Nat) (hw : w < 9) (hi : i < nthD slen w 0) (d : Nat) (hd : 2 < d) : Tri d YJ0_charAt_5068e 117 [vr 66 w, vi (nI i)] (S0 I J) (fun r σ => σ = S0 I J ∧ r = some (vi (nI (chr w i)))) := by
  refine Tri.of (M := MJ0_charAt_5068e) k_J0_charAt_5068e ⟨Nat.le_refl _, Nat.le_refl _⟩ (Nat.le_of_ble_eq_true rfl) ?_
  refine Sat.of k_J0_charAt_5068e [] 60 ?_
  refine ⟨0, 117, by omega, Nat.le_refl _, (c_isLatin1 I J w 0).mono ?_⟩
  rintro r σ ⟨rfl, rfl⟩
  refine ⟨fun c => absurd c (by decide), fun c => ⟨2, 117, hd, Nat.le_refl _, (c_latAt I J w i hw hi 2 (by decide)).mono ?_⟩⟩
  rintro r σ ⟨rfl, rfl⟩
  refine ⟨rfl, ?_, rfl, rfl⟩
  show narrow .char (.int (nI (chr w i))) = .int (nI (chr w i))
  exact (pk_charN (by have := (chr_t w hw i hi).2; omega)).1
