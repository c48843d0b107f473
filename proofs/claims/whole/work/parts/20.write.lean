/-! The line: histories, written as longs -/
theorem lx_or (a b : Nat) : lN a ||| lN b = lN (a ||| b) := by
  apply Int64.toBitVec_inj.1
  show BitVec.ofNat 64 a ||| BitVec.ofNat 64 b = BitVec.ofNat 64 (a ||| b)
  apply BitVec.eq_of_getLsbD_eq
  intro i hi
  simp [hi]
theorem lxs : ∀ n, n < 64 → ((lN n &&& 63).toBitVec.smod 64).toNat = n := by decide +kernel
theorem lx_tn {n : Nat} (h : n < 2 ^ 64) : (lN n).toBitVec.toNat = n := Nat.mod_eq_of_lt h
theorem lx_shl {a r : Nat} (hr : r < 64) (h : a * 2 ^ r < 2 ^ 64) : lN a <<< (lN r &&& 63) = lN (a * 2 ^ r) := by
  apply Int64.toBitVec_inj.mp
  apply BitVec.eq_of_toNat_eq
  have hn : a < 2 ^ 64 := Nat.lt_of_le_of_lt (Nat.le_mul_of_pos_right a (Nat.two_pow_pos r)) h
  show ((lN a).toBitVec <<< ((lN r &&& 63).toBitVec.smod 64).toNat).toNat = _
  rw [lxs r hr, BitVec.toNat_shiftLeft, Nat.shiftLeft_eq, lx_tn hn, lx_tn h, Nat.mod_eq_of_lt h]
theorem lx_shr {a r : Nat} (ha : a < 2 ^ 63) (hr : r < 64) : lN a >>> (lN r &&& 63) = lN (a / 2 ^ r) := by
  apply Int64.toInt_inj.mp
  have h2 : a / 2 ^ r ≤ a := Nat.div_le_self _ _
  show ((lN a).toBitVec.sshiftRight ((lN r &&& 63).toBitVec.smod 64).toNat).toInt = _
  rw [lxs r hr, BitVec.toInt_sshiftRight]
  show (lN a).toInt >>> r = _
  rw [pk_lT ha, pk_lT (by omega), Int.shiftRight_eq_div_pow]
  rfl
theorem pos16 (p : Nat) : 0 < 16 ^ p := Nat.pow_pos (by decide)
abbrev HS : Type := Nat → Nat
def encN (l : HS) : Nat → Nat
  | 0 => 0
  | p + 1 => encN l p + l p * 16 ^ p
theorem encN_lt {l : HS} : ∀ {p : Nat}, (∀ q, q < p → l q < 16) → encN l p < 16 ^ p
  | 0, _ => by simp [encN]
  | p + 1, h => by
    have h1 := encN_lt (l := l) (p := p) (fun q hq => h q (by omega))
    have h2 := h p (by omega)
    simp only [encN]
    rw [Nat.pow_succ]
    have : l p * 16 ^ p ≤ 15 * 16 ^ p := Nat.mul_le_mul_right _ (by omega)
    omega
theorem encN_dec {l : HS} {p : Nat} : ∀ {P : Nat}, (∀ q, q < P → l q < 16) → p < P → encN l P / 16 ^ p % 16 = l p
  | 0, _, hp => absurd hp (by omega)
  | P + 1, h, hp => by
    have hl := encN_lt (l := l) (p := P) (fun q hq => h q (by omega))
    simp only [encN]
    by_cases e : p = P
    · subst e
      rw [Nat.add_mul_div_right _ _ (pos16 p), Nat.div_eq_of_lt hl, Nat.zero_add, Nat.mod_eq_of_lt (h p (by omega))]
    · have e1 : l P * 16 ^ P = 16 ^ p * (16 * (l P * 16 ^ (P - p - 1))) := by
        rw [show P = p + (1 + (P - p - 1)) by omega, Nat.pow_add, Nat.pow_add, show p + (1 + (P - p - 1)) - p - 1 = P - p - 1 by omega]
        simp only [Nat.pow_one, Nat.mul_left_comm, Nat.mul_comm, Nat.mul_assoc]
      rw [e1, Nat.add_mul_div_left _ _ (pos16 p), Nat.add_mul_mod_self_left]
      exact encN_dec (fun q hq => h q (by omega)) (by omega)
