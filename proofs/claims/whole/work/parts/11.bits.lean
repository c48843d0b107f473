/-! BITS of small numbers; the table of two relations; sets turned and composed -/
theorem nxs : ∀ n, n < 32 → ((nI n &&& 31).toBitVec.smod 32).toNat = n := by decide +kernel
theorem nx_or (a b : Nat) : nI a ||| nI b = nI (a ||| b) := by
  apply Int32.toBitVec_inj.1
  show BitVec.ofNat 32 a ||| BitVec.ofNat 32 b = BitVec.ofNat 32 (a ||| b)
  apply BitVec.eq_of_getLsbD_eq
  intro i hi
  simp [hi]
theorem nx_an (a b : Nat) : nI a &&& nI b = nI (a &&& b) := by
  apply Int32.toBitVec_inj.1
  show BitVec.ofNat 32 a &&& BitVec.ofNat 32 b = BitVec.ofNat 32 (a &&& b)
  apply BitVec.eq_of_getLsbD_eq
  intro i hi
  simp [hi]
theorem nx_shr {a r : Nat} (ha : a < 2 ^ 31) (hr : r < 32) : nI a >>> (nI r &&& 31) = nI (a / 2 ^ r) := pk_shrN ha _ r (nxs r hr)
theorem nx_shl {r : Nat} (hr : r < 31) : (1 : Int32) <<< (nI r &&& 31) = nI (2 ^ r) := by
  have h := pk_shlN (n := 1) (nI r &&& 31) r (nxs r (by omega)) (by rw [Nat.one_mul]; exact Nat.pow_lt_pow_right (by decide) (by omega))
  rw [Nat.one_mul] at h
  exact h
theorem nx_bit {a r : Nat} (ha : a < 2 ^ 31) (hr : r < 32) : (nI a >>> (nI r &&& 31)) &&& 1 = bi (a.testBit r) := by
  rw [nx_shr ha hr]
  have h1 : a / 2 ^ r < 2 ^ 32 := Nat.lt_of_le_of_lt (Nat.div_le_self _ _) (by omega)
  rw [show (1 : Int32) = nI 1 from rfl, pk_andN h1 1 (by decide), Nat.testBit_eq_decide_div_mod_eq]
  rcases Nat.mod_two_eq_zero_or_one (a / 2 ^ r) with h | h
  · rw [h]; rfl
  · rw [h]; rfl
/-- what r, then s can be -/
def tw : List Nat := [1, 1, 1, 1, 31, 31, 1, 1, 1, 1, 31, 31, 8191, 1, 1, 1, 2, 28, 28, 2, 1, 1, 2, 28, 224, 7936, 1, 1, 7, 4, 28, 28, 4, 7, 391, 388, 2044, 1792, 7936, 1, 1, 7, 8, 16, 16, 8, 7, 391, 584, 1072, 2048, 4096,
  1, 1, 31, 16, 16, 16, 16, 31, 8191, 7216, 7216, 4096, 4096, 1, 2, 28, 16, 16, 32, 32, 224, 7936, 7168, 7168, 4096, 4096, 1, 2, 4, 8, 16, 32, 64, 128, 256, 512, 1024, 2048, 4096, 1, 2, 4, 4, 28, 224, 128, 128, 256, 256, 1792, 1792, 7936,
  391, 388, 388, 388, 2044, 1792, 256, 256, 256, 256, 1792, 1792, 7936, 391, 388, 388, 584, 1072, 1024, 512, 256, 256, 512, 1024, 2048, 4096, 391, 388, 2044, 1072, 1072, 1024, 1024, 1792, 7936, 7168, 7168, 4096, 4096,
  391, 584, 1072, 1072, 1072, 2048, 2048, 2048, 4096, 4096, 4096, 4096, 4096, 8191, 7216, 7216, 7216, 7216, 4096, 4096, 4096, 4096, 4096, 4096, 4096, 4096]
def TT (r s : Nat) : Nat := nthD tw (13 * r + s) 0
theorem tw_c64 : ∀ k, k < 169 → nthD c64 k 0 = nI (nthD tw k 0) := by decide +kernel
theorem tw_lt : ∀ k, k < 169 → nthD tw k 0 < 8192 := by decide +kernel
theorem TT_lt {r s : Nat} : TT r s < 8192 := by
  unfold TT
  rcases Nat.lt_or_ge (13 * r + s) 169 with h | h
  · exact tw_lt _ h
  · rw [nthD_none tw _ 0 (by have : tw.length = 169 := by decide +kernel
                             omega)]
    omega
def orN : Nat → (Nat → Nat) → Nat
  | 0, _ => 0
  | n + 1, f => orN n f ||| f n
theorem orN_bit {f : Nat → Nat} {c : Nat} : ∀ {n : Nat}, (orN n f).testBit c = true ↔ ∃ i, i < n ∧ (f i).testBit c = true
  | 0 => by simp [orN]
  | n + 1 => by
    rw [orN, Nat.testBit_or, Bool.or_eq_true, orN_bit]
    constructor
    · rintro (⟨i, h1, h2⟩ | h)
      · exact ⟨i, by omega, h2⟩
      · exact ⟨n, by omega, h⟩
    · rintro ⟨i, h1, h2⟩
      by_cases hi : i = n
      · subst hi; exact Or.inr h2
      · exact Or.inl ⟨i, by omega, h2⟩
theorem orN_lt {f : Nat → Nat} {k : Nat} : ∀ {n : Nat}, (∀ i, i < n → f i < 2 ^ k) → orN n f < 2 ^ k
  | 0, _ => by simp [orN]; exact Nat.two_pow_pos k
  | n + 1, h => Nat.or_lt_two_pow (orN_lt (fun i hi => h i (by omega))) (h n (by omega))
/-- row 13 turns round -/
def T2 (r s : Nat) : Nat := if r = 13 then 2 ^ (12 - s) else TT r s
theorem T2_lt {r s : Nat} : T2 r s < 2 ^ 13 := by
  unfold T2
  split
  · exact Nat.pow_lt_pow_right (by decide) (by omega)
  · exact TT_lt
def rowF (r a : Nat) : Nat := orN 13 (fun s => if a.testBit s then T2 r s else 0)
def lowF (r a : Nat) : Nat := orN 7 (fun s => if a.testBit s then T2 r s else 0)
def highF (r a : Nat) : Nat := orN 6 (fun s => if a.testBit s then T2 r (s + 7) else 0)
def trn (a : Nat) : Nat := rowF 13 a
def cmps (a b : Nat) : Nat := orN 13 (fun r => if a.testBit r then rowF r b else 0)
theorem rowF_lt {r a : Nat} : rowF r a < 2 ^ 13 := orN_lt (fun i _ => by
  by_cases h : a.testBit i = true
  · rw [if_pos h]; exact T2_lt
  · rw [if_neg h]; decide)
theorem cmps_lt {a b : Nat} : cmps a b < 2 ^ 13 := orN_lt (fun i _ => by
  by_cases h : a.testBit i = true
  · rw [if_pos h]; exact rowF_lt
  · rw [if_neg h]; decide)
theorem rowF_bit {r a c : Nat} : (rowF r a).testBit c = true ↔ ∃ s, s < 13 ∧ a.testBit s = true ∧ (T2 r s).testBit c = true := by
  unfold rowF
  rw [orN_bit]
  constructor
  · rintro ⟨i, h1, h2⟩
    by_cases h : a.testBit i = true
    · rw [if_pos h] at h2; exact ⟨i, h1, h, h2⟩
    · rw [if_neg h] at h2; simp at h2
  · rintro ⟨i, h1, h, h2⟩
    exact ⟨i, h1, by rw [if_pos h]; exact h2⟩
theorem lowF_bit {r a c : Nat} : (lowF r a).testBit c = true ↔ ∃ s, s < 7 ∧ a.testBit s = true ∧ (T2 r s).testBit c = true := by
  unfold lowF
  rw [orN_bit]
  constructor
  · rintro ⟨i, h1, h2⟩
    by_cases h : a.testBit i = true
    · rw [if_pos h] at h2; exact ⟨i, h1, h, h2⟩
    · rw [if_neg h] at h2; simp at h2
  · rintro ⟨i, h1, h, h2⟩
    exact ⟨i, h1, by rw [if_pos h]; exact h2⟩
theorem highF_bit {r a c : Nat} : (highF r a).testBit c = true ↔ ∃ s, s < 6 ∧ a.testBit s = true ∧ (T2 r (s + 7)).testBit c = true := by
  unfold highF
  rw [orN_bit]
  constructor
  · rintro ⟨i, h1, h2⟩
    by_cases h : a.testBit i = true
    · rw [if_pos h] at h2; exact ⟨i, h1, h, h2⟩
    · rw [if_neg h] at h2; simp at h2
  · rintro ⟨i, h1, h, h2⟩
    exact ⟨i, h1, by rw [if_pos h]; exact h2⟩
theorem row_split {r a : Nat} : lowF r (a % 128) ||| highF r (a / 128 % 64) = rowF r a := by
  apply Nat.eq_of_testBit_eq
  intro c
  rw [Bool.eq_iff_iff, Nat.testBit_or, Bool.or_eq_true, lowF_bit, highF_bit, rowF_bit]
  have h1 : ∀ s, s < 7 → (a % 128).testBit s = a.testBit s := fun s hs => by
    rw [show (128 : Nat) = 2 ^ 7 from rfl, Nat.testBit_mod_two_pow]; simp [hs]
  have h2 : ∀ s, s < 6 → (a / 128 % 64).testBit s = a.testBit (s + 7) := fun s hs => by
    rw [show (64 : Nat) = 2 ^ 6 from rfl, Nat.testBit_mod_two_pow, show (128 : Nat) = 2 ^ 7 from rfl, Nat.testBit_div_two_pow]; simp [hs, Nat.add_comm]
  constructor
  · rintro (⟨s, e1, e2, e3⟩ | ⟨s, e1, e2, e3⟩)
    · exact ⟨s, by omega, by rw [← h1 s e1]; exact e2, e3⟩
    · exact ⟨s + 7, by omega, by rw [← h2 s e1]; exact e2, e3⟩
  · rintro ⟨s, e1, e2, e3⟩
    by_cases hs : s < 7
    · exact Or.inl ⟨s, hs, by rw [h1 s hs]; exact e2, e3⟩
    · refine Or.inr ⟨s - 7, by omega, ?_, ?_⟩
      · rw [h2 (s - 7) (by omega), show s - 7 + 7 = s by omega]; exact e2
      · rw [show s - 7 + 7 = s by omega]; exact e3
/-- what the algebra's rows hold -/
def ALG (I : SI) : Prop := (∀ r, r < 14 → ∀ a, a < 128 → I 1 0 (128 * r + a) = nI (lowF r a)) ∧ ∀ r, r < 14 → ∀ a, a < 64 → I 2 0 (64 * r + a) = nI (highF r a)
theorem and127 {a : Nat} (h : a < 2 ^ 31) : nI a &&& 127 = nI (a % 128) := pk_andN (by omega) 7 (by decide)
theorem and63 {a : Nat} (h : a < 2 ^ 31) : nI a &&& 63 = nI (a % 64) := pk_andN (by omega) 6 (by decide)
theorem shr7 {a : Nat} (h : a < 2 ^ 31) : nI a >>> (7 &&& 31) = nI (a / 128) := nx_shr (r := 7) h (by decide)
set_option maxRecDepth 10000 in
theorem c_turn (I : SI) (J : SJ) (a : Nat) (h : ALG I) (ha : a < 8192) (d : Nat) : Tri d YX0_turn 117 [vr 0 0, vi (nI a)] (S0 I J) (fun r σ => σ = S0 I J ∧ r = some (vi (nI (trn a)))) := by
  refine Tri.of (M := MX0_turn) k_X0_turn ⟨Nat.le_refl _, Nat.le_refl _⟩ (Nat.le_of_ble_eq_true rfl) ?_
  refine Sat.of k_X0_turn [] 60 ?_
  have h127 : a % 128 < 128 := Nat.mod_lt _ (by decide)
  have h63 : a / 128 % 64 < 64 := Nat.mod_lt _ (by decide)
  have e1 : (1664 : Int32) + (nI a &&& 127) = nI (128 * 13 + a % 128) := by rw [and127 (by omega)]; exact nI_add 1664 _
  have e2 : (832 : Int32) + ((nI a >>> (7 &&& 31)) &&& 63) = nI (64 * 13 + a / 128 % 64) := by
    rw [shr7 (by omega), and63 (Nat.lt_of_le_of_lt (Nat.div_le_self _ _) (by omega))]; exact nI_add 832 _
  refine ⟨?_, ?_, rfl, trivial, rfl, ?_⟩
  · show vp_in ((1664 : Int32) + (nI a &&& 127)) 1792
    rw [e1]
    exact vp_in_nI (by omega) (by omega)
  · show vp_in ((832 : Int32) + ((nI a >>> (7 &&& 31)) &&& 63)) 896
    rw [e2]
    exact vp_in_nI (by omega) (by omega)
  · show some (vi (I 1 0 ((1664 : Int32) + (nI a &&& 127)).toNatClampNeg ||| I 2 0 ((832 : Int32) + ((nI a >>> (7 &&& 31)) &&& 63)).toNatClampNeg)) = _
    rw [e1, e2, nI_clamp (by omega), nI_clamp (by omega), h.1 13 (by omega) _ h127, h.2 13 (by omega) _ h63, nx_or, row_split]
    rfl
set_option maxRecDepth 10000 in
theorem c_composeOne (I : SI) (J : SJ) (r a : Nat) (h : ALG I) (hr : r < 13) (ha : a < 8192) (d : Nat) : Tri d YX0_composeOne 117 [vr 0 0, vi (nI r), vi (nI a)] (S0 I J) (fun v σ => σ = S0 I J ∧ v = some (vi (nI (rowF r a)))) := by
  refine Tri.of (M := MX0_composeOne) k_X0_composeOne ⟨Nat.le_refl _, Nat.le_refl _⟩ (Nat.le_of_ble_eq_true rfl) ?_
  refine Sat.of k_X0_composeOne [] 60 ?_
  have h127 : a % 128 < 128 := Nat.mod_lt _ (by decide)
  have h63 : a / 128 % 64 < 64 := Nat.mod_lt _ (by decide)
  have e1 : nI r * 128 + (nI a &&& 127) = nI (128 * r + a % 128) := by rw [and127 (by omega), show (128 : Int32) = nI 128 from rfl, pk_mul, nI_add, Nat.mul_comm]
  have e2 : nI r * (64 : Int32) + ((nI a >>> ((7 : Int32) &&& 31)) &&& 63) = nI (64 * r + a / 128 % 64) := by
    rw [shr7 (by omega), and63 (Nat.lt_of_le_of_lt (Nat.div_le_self _ _) (by omega)), show (64 : Int32) = nI 64 from rfl, pk_mul, nI_add, Nat.mul_comm]
  refine ⟨?_, ?_, rfl, trivial, rfl, ?_⟩
  · show vp_in (nI r * 128 + (nI a &&& 127)) 1792
    rw [e1]
    exact vp_in_nI (by omega) (by omega)
  · show vp_in (nI r * (64 : Int32) + ((nI a >>> ((7 : Int32) &&& 31)) &&& 63)) 896
    rw [e2]
    exact vp_in_nI (by omega) (by omega)
  · show some (vi (I 1 0 (nI r * 128 + (nI a &&& 127)).toNatClampNeg ||| I 2 0 (nI r * (64 : Int32) + ((nI a >>> ((7 : Int32) &&& 31)) &&& 63)).toNatClampNeg)) = _
    rw [e1, e2, nI_clamp (by omega), nI_clamp (by omega), h.1 r (by omega) _ h127, h.2 r (by omega) _ h63, nx_or, row_split]
/-- the first relations of a set, composed -/
def cmpN (n a b : Nat) : Nat := orN n (fun r => if a.testBit r then rowF r b else 0)
theorem cmpN_lt {n a b : Nat} : cmpN n a b < 2 ^ 13 := orN_lt (fun i _ => by
  by_cases h : a.testBit i = true
  · rw [if_pos h]; exact rowF_lt
  · rw [if_neg h]; decide)
theorem or_all {a : Nat} (h : a < 2 ^ 13) : 8191 ||| a = 8191 := by
  apply Nat.eq_of_testBit_eq
  intro c
  rw [Nat.testBit_or, show (8191 : Nat) = 2 ^ 13 - 1 from rfl, Nat.testBit_two_pow_sub_one]
  by_cases hc : c < 13
  · simp [hc]
  · rw [Nat.testBit_lt_two_pow (Nat.lt_of_lt_of_le h (Nat.pow_le_pow_right (by decide) (by omega)))]
    simp
theorem cmpN_all {n m a b : Nat} (h : cmpN n a b = 8191) (hm : n ≤ m) : cmpN m a b = 8191 := by
  induction hm with
  | refl => exact h
  | step _ ih =>
    rename_i m _
    show cmpN m a b ||| _ = _
    rw [ih]
    apply or_all
    show (if a.testBit m = true then rowF m b else 0) < 2 ^ 13
    by_cases h : a.testBit m = true
    · rw [if_pos h]; exact rowF_lt
    · rw [if_neg h]; decide
set_option maxRecDepth 10000 in
theorem c_compose (I : SI) (J : SJ) (a b : Nat) (h : ALG I) (ha : a < 8192) (hb : b < 8192) (d : Nat) : Tri d YX0_compose 117 [vr 0 0, vi (nI a), vi (nI b)] (S0 I J) (fun v σ => σ = S0 I J ∧ v = some (vi (nI (cmps a b)))) := by
  refine Tri.of (M := MX0_compose) k_X0_compose ⟨Nat.le_refl _, Nat.le_refl _⟩ (Nat.le_of_ble_eq_true rfl) ?_
  have h127 : b % 128 < 128 := Nat.mod_lt _ (by decide)
  have h63 : b / 128 % 64 < 64 := Nat.mod_lt _ (by decide)
  have loop : ∀ (n r : Nat), r + n = 13 → Sat none MX0_compose d 117 (fun v σ => σ = S0 I J ∧ v = some (vi (nI (cmps a b)))) 20 [some (vr 0 0), some (vi (nI a)), some (vi (nI b)), some (vi (nI (b % 128))), some (vi (nI (b / 128 % 64))), some (vi (nI (cmpN r a b))), some (vi (nI r))] [] (S0 I J) := by
    intro n
    induction n with
    | zero =>
      intro r hr
      have hr : r = 13 := by omega
      subst hr
      refine Sat.of k_X0_compose [20] 60 ?_
      refine ⟨fun c => ⟨rfl, trivial, rfl, rfl⟩, fun c => absurd (nI_le (a := 13) (b := 13) (by omega) (by omega)) c⟩
    | succ n ih =>
      intro r hr
      have hlt := @cmpN_lt r a b
      refine Sat.of k_X0_compose [20] 60 ?_
      refine ⟨fun c => absurd ((nI_leI (a := 13) (by omega) (by omega)).mp c) (by omega), fun c => ⟨fun c2 => ⟨rfl, trivial, rfl, ?_⟩, fun c2 => ⟨fun c3 => ?_, fun c3 => ⟨?_, ?_, ?_⟩⟩⟩⟩
      · have c2 : nI (cmpN r a b) = nI 8191 := c2
        have c2 := (nI_eq (by omega) (by omega)).mp c2
        show some (vi (nI (cmpN r a b))) = some (vi (nI (cmpN 13 a b)))
        rw [c2, cmpN_all (m := 13) c2 (by omega)]
      · have c3 : (nI a >>> (nI r &&& 31)) &&& 1 = 0 := c3
        rw [nx_bit (by omega) (by omega)] at c3
        refine (ih (r + 1) (by omega)).to ?_ rfl
        have e : cmpN (r + 1) a b = cmpN r a b := by
          show cmpN r a b ||| (if a.testBit r then rowF r b else 0) = _
          rw [bi_f c3]
          simp
        rw [e, ← nI_1]
        rfl
      · show vp_in (nI r * 128 + nI (b % 128)) 1792
        rw [show (128 : Int32) = nI 128 from rfl, pk_mul, nI_add]
        exact vp_in_nI (by omega) (by omega)
      · show vp_in (nI r * 64 + nI (b / 128 % 64)) 896
        rw [show (64 : Int32) = nI 64 from rfl, pk_mul, nI_add]
        exact vp_in_nI (by omega) (by omega)
      · have c3 : ¬ (nI a >>> (nI r &&& 31)) &&& 1 = 0 := c3
        rw [nx_bit (by omega) (by omega)] at c3
        refine (ih (r + 1) (by omega)).to ?_ rfl
        have e : nI (cmpN (r + 1) a b) = nI (cmpN r a b) ||| (I 1 0 (nI r * 128 + nI (b % 128)).toNatClampNeg ||| I 2 0 (nI r * 64 + nI (b / 128 % 64)).toNatClampNeg) := by
          show nI (cmpN r a b ||| (if a.testBit r then rowF r b else 0)) = _
          rw [bi_t c3, if_pos rfl, show (64 : Int32) = nI 64 from rfl, pk_mul, nI_add, show (128 : Int32) = nI 128 from rfl, pk_mul, nI_add, nI_clamp (by omega), nI_clamp (by omega), Nat.mul_comm r 128, Nat.mul_comm r 64, h.1 r (by omega) _ h127, h.2 r (by omega) _ h63, nx_or, nx_or, row_split]
        rw [e, ← nI_1]
        rfl
  refine Sat.of k_X0_compose [20] 60 ?_
  refine (loop 13 0 (by omega)).to ?_ rfl
  show [some (vr 0 0), some (vi (nI a)), some (vi (nI b)), some (vi (nI b &&& 127)), some (vi ((nI b >>> (7 &&& 31)) &&& 63)), some (vi 0), some (vi 0)] = _
  rw [and127 (by omega), shr7 (by omega), and63 (Nat.lt_of_le_of_lt (Nat.div_le_self _ _) (by omega))]
  rfl
