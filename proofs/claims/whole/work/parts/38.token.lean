/-! The reader: tokens -/
def kdC (c : Nat) : Nat := if 97 ≤ c ∧ c ≤ 122 then 1 else if 48 ≤ c ∧ c ≤ 57 then 2 else if c = 59 then 3 else 4
def kAt (t : Nat → Nat) (n i : Nat) : Nat := if i < n then kdC (t i) else 0
def scn (P : Nat → Bool) : Nat → Nat → Nat
  | 0, k => k
  | f + 1, k => if P k then scn P f (k + 1) else k
/-- past all that are so -/
def pst (P : Nat → Bool) (n k : Nat) : Nat := scn P (n - k) k
theorem pst_go {P : Nat → Bool} {n k : Nat} (h : k < n) (hp : P k = true) : pst P n k = pst P n (k + 1) := by
  unfold pst
  obtain ⟨f, e⟩ : ∃ f, n - k = f + 1 := ⟨n - k - 1, by omega⟩
  rw [e, show n - (k + 1) = f by omega]
  simp only [scn]
  rw [if_pos hp]
theorem pst_no {P : Nat → Bool} {n k : Nat} (hp : P k = false) : pst P n k = k := by
  unfold pst
  cases n - k with
  | zero => rfl
  | succ f =>
    simp only [scn]
    rw [if_neg (by rw [hp]; decide)]
theorem pst_end {P : Nat → Bool} {n k : Nat} (h : n ≤ k) : pst P n k = k := by
  unfold pst
  rw [show n - k = 0 by omega]
  rfl
theorem pst_le {P : Nat → Bool} {n : Nat} : ∀ {m k : Nat}, k + m = n → k ≤ pst P n k ∧ pst P n k ≤ n ∧ (∀ i, k ≤ i → i < pst P n k → P i = true) ∧ (pst P n k < n → P (pst P n k) = false)
  | 0, k, h => by
    rw [pst_end (by omega)]
    exact ⟨Nat.le_refl _, by omega, fun i h1 h2 => absurd h1 (by omega), fun q => absurd q (by omega)⟩
  | m + 1, k, h => by
    cases hp : P k with
    | true =>
      rw [pst_go (by omega) hp]
      obtain ⟨h1, h2, h3, h4⟩ := pst_le (P := P) (n := n) (m := m) (k := k + 1) (by omega)
      refine ⟨by omega, h2, fun i q1 q2 => ?_, h4⟩
      by_cases e : i = k
      · rw [e]; exact hp
      · exact h3 i (by omega) q2
    | false =>
      rw [pst_no hp]
      exact ⟨Nat.le_refl _, by omega, fun i h1 h2 => absurd h1 (by omega), fun _ => hp⟩
def skP (t : Nat → Nat) (i : Nat) : Bool := decide (t i = 32)
def ruP (t : Nat → Nat) (κ i : Nat) : Bool := decide (kdC (t i) = κ)
def tkP (t : Nat → Nat) (n k : Nat) : Nat := pst (skP t) n k
def tkE (t : Nat → Nat) (n p : Nat) : Nat := if kAt t n p = 1 ∨ kAt t n p = 2 then pst (ruP t (kAt t n p)) n p else if kAt t n p = 0 then p else p + 1
def vlN (t : Nat → Nat) (p : Nat) : Nat → Nat
  | 0 => 0
  | i + 1 => if vlN t p i = 0 ∧ 0 < i then 10000 else min (vlN t p i * 10 + t (p + i) - 48) 10000
theorem vlN_le {t : Nat → Nat} {p : Nat} : ∀ {i : Nat}, vlN t p i ≤ 10000
  | 0 => by simp [vlN]
  | i + 1 => by
    simp only [vlN]
    split
    · exact Nat.le_refl _
    · exact Nat.min_le_right _ _
def TX (I : SI) (n : Nat) (t : Nat → Nat) : Prop := I 20 0 2 = nI n ∧ n ≤ 160 ∧ ∀ i, i < n → I 26 0 i = nI (t i) ∧ t i ≤ 255
def frD (I I1 : SI) : Prop := (∀ t k, ¬ (t = 20 ∧ k = 0) → I1 t k = I t k) ∧ I1 20 0 2 = I 20 0 2
theorem frD.rf {I : SI} : frD I I := ⟨fun _ _ _ => rfl, rfl⟩
theorem frD.tr {I I1 I2 : SI} (h : frD I I1) (h1 : frD I1 I2) : frD I I2 := ⟨fun t k hk => (h1.1 t k hk).trans (h.1 t k hk), h1.2.trans h.2⟩
theorem frD.u {I I1 : SI} {j : Nat} {x : Int32} (h : frD I I1) (hj : 2 ≠ j) : frD I (uI I1 20 0 j x) := ⟨fun t k hk => by
  rw [uI_ne (fun q => hk (by cases q; exact ⟨rfl, rfl⟩))]
  exact h.1 t k hk, by rw [uI_j hj]; exact h.2⟩
theorem TX.fr {I I1 : SI} {n : Nat} {t : Nat → Nat} (h : TX I n t) (hf : frD I I1) : TX I1 n t := by
  unfold TX at h ⊢
  rw [hf.2, hf.1 26 0 (by omega)]
  exact h
theorem kdC_le (c : Nat) : kdC c ≤ 4 ∧ 1 ≤ kdC c := by
  unfold kdC
  split
  · decide
  · split
    · decide
    · split <;> decide
set_option maxRecDepth 10000 in
theorem c_kindAt (I : SI) (J : SJ) (n i : Nat) (t : Nat → Nat) (h : TX I n t) (hi : i < 2 ^ 31) (d : Nat) : Tri d YX6_kindAt 117 [vr 20 0, vi (nI i)] (S0 I J) (fun r σ => σ = S0 I J ∧ r = some (vi (nI (kAt t n i)))) := by
  refine Tri.of (M := MX6_kindAt) k_X6_kindAt ⟨Nat.le_refl _, Nat.le_refl _⟩ (Nat.le_of_ble_eq_true rfl) ?_
  obtain ⟨h1, h2, h3⟩ := h
  refine Sat.of k_X6_kindAt [] 60 ?_
  refine ⟨fun c => absurd (show nI 0 ≤ nI i from nI_le (by omega) (by omega)) (by rw [Int32.not_le]; exact c), fun c => ⟨fun c1 => ?_, fun c1 => ⟨rfl, trivial, rfl, ?_⟩⟩⟩
  · have c1 : nI i < I 20 0 2 := c1
    rw [h1, nI_ltI hi (by omega)] at c1
    obtain ⟨h4, h5⟩ := h3 i c1
    have ei : (nI i).toNatClampNeg = i := nI_clamp (by omega)
    have ev : I 26 0 (nI i).toNatClampNeg = nI (t i) := by rw [ei, h4]
    have ek : kAt t n i = kdC (t i) := by unfold kAt; rw [if_pos c1]
    rw [ek]
    have lt : ∀ a : Nat, a < 256 → (I 26 0 (nI i).toNatClampNeg < nI a ↔ t i < a) := fun a ha => by rw [ev]; exact nI_ltI (by omega) (by omega)
    have gt : ∀ a : Nat, a < 256 → (nI a < I 26 0 (nI i).toNatClampNeg ↔ a < t i) := fun a ha => by rw [ev]; exact nI_ltI (by omega) (by omega)
    refine ⟨vp_in_nI (by omega) (by decide), ?_⟩
    have low : (¬ (97 ≤ t i ∧ t i ≤ 122)) → (I 26 0 (nI i).toNatClampNeg < 48 → (¬ I 26 0 (nI i).toNatClampNeg = 59 → (4 : Int32) = nI (kdC (t i))) ∧ (I 26 0 (nI i).toNatClampNeg = 59 → (3 : Int32) = nI (kdC (t i)))) ∧ (¬ I 26 0 (nI i).toNatClampNeg < 48 → (57 < I 26 0 (nI i).toNatClampNeg → (¬ I 26 0 (nI i).toNatClampNeg = 59 → (4 : Int32) = nI (kdC (t i))) ∧ (I 26 0 (nI i).toNatClampNeg = 59 → (3 : Int32) = nI (kdC (t i)))) ∧ (¬ 57 < I 26 0 (nI i).toNatClampNeg → (2 : Int32) = nI (kdC (t i)))) := fun hn => by
      have e59 : I 26 0 (nI i).toNatClampNeg = 59 ↔ t i = 59 := by rw [ev]; exact nI_eq (b := 59) (by omega) (by decide)
      have l48 := lt 48 (by decide)
      have g57 := gt 57 (by decide)
      unfold kdC
      rw [if_neg hn]
      refine ⟨fun q => ?_, fun q => ⟨fun q1 => ?_, fun q1 => ?_⟩⟩
      · have q := l48.mp q
        rw [if_neg (by omega)]
        refine ⟨fun q2 => ?_, fun q2 => ?_⟩
        · rw [if_neg (fun e => q2 (e59.mpr e))]; rfl
        · rw [if_pos (e59.mp q2)]; rfl
      · have q1 := g57.mp q1
        rw [if_neg (by omega)]
        refine ⟨fun q2 => ?_, fun q2 => ?_⟩
        · rw [if_neg (fun e => q2 (e59.mpr e))]; rfl
        · rw [if_pos (e59.mp q2)]; rfl
      · have q : ¬ t i < 48 := fun e => q (l48.mpr e)
        have q1 : ¬ 57 < t i := fun e => q1 (g57.mpr e)
        rw [if_pos (by omega)]
        rfl
    have l97 := lt 97 (by decide)
    have g122 := gt 122 (by decide)
    have ans : ∀ x : Int32, x = nI (kdC (t i)) → some (vi x) = some (vi (nI (kdC (t i)))) := fun x e => by rw [e]
    refine ⟨fun q => ?_, fun q => ⟨fun q1 => ?_, fun q1 => ⟨rfl, trivial, rfl, ?_⟩⟩⟩
    · obtain ⟨a, b⟩ := low (by have := l97.mp q; omega)
      refine ⟨fun r => ⟨fun r2 => ⟨rfl, trivial, rfl, ans _ ((a r).1 r2)⟩, fun r2 => ⟨rfl, trivial, rfl, ans _ ((a r).2 r2)⟩⟩, fun r => ⟨fun r1 => ⟨fun r2 => ⟨rfl, trivial, rfl, ans _ (((b r).1 r1).1 r2)⟩, fun r2 => ⟨rfl, trivial, rfl, ans _ (((b r).1 r1).2 r2)⟩⟩, fun r1 => ⟨rfl, trivial, rfl, ans _ ((b r).2 r1)⟩⟩⟩
    · obtain ⟨a, b⟩ := low (by have := g122.mp q1; omega)
      refine ⟨fun r => ⟨fun r2 => ⟨rfl, trivial, rfl, ans _ ((a r).1 r2)⟩, fun r2 => ⟨rfl, trivial, rfl, ans _ ((a r).2 r2)⟩⟩, fun r => ⟨fun r1 => ⟨fun r2 => ⟨rfl, trivial, rfl, ans _ (((b r).1 r1).1 r2)⟩, fun r2 => ⟨rfl, trivial, rfl, ans _ (((b r).1 r1).2 r2)⟩⟩, fun r1 => ⟨rfl, trivial, rfl, ans _ ((b r).2 r1)⟩⟩⟩
    · refine ans _ ?_
      have q : ¬ t i < 97 := fun e => q (l97.mpr e)
      have q1 : ¬ 122 < t i := fun e => q1 (g122.mpr e)
      unfold kdC
      rw [if_pos (by omega)]
      rfl
  · have c1 : ¬ nI i < I 20 0 2 := c1
    rw [h1, nI_ltI hi (by omega)] at c1
    unfold kAt
    rw [if_neg c1]
    rfl
set_option maxRecDepth 10000 in
theorem c_readValue (I : SI) (J : SJ) (n p e : Nat) (t : Nat → Nat) (h : TX I n t) (hp : I 20 0 3 = nI p) (he : I 20 0 4 = nI e) (hpe : p ≤ e) (hen : e ≤ n) (hdig : ∀ i, p ≤ i → i < e → 48 ≤ t i) (d : Nat) (hd : 0 < d) : Tri d YX6_readValue 117 [vr 20 0] (S0 I J) (fun r σ => r = none ∧ σ = S0 (uI I 20 0 6 (nI (vlN t p (e - p)))) J) := by
  refine Tri.of (M := MX6_readValue) k_X6_readValue ⟨Nat.le_refl _, Nat.le_refl _⟩ (Nat.le_of_ble_eq_true rfl) ?_
  have h2 := h.2.1
  have up : ∀ (x y : Int32), uI (uI I 20 0 6 x) 20 0 6 y = uI I 20 0 6 y := fun x y => by
    funext a b c
    by_cases q : a = 20 ∧ b = 0 ∧ c = 6
    · obtain ⟨rfl, rfl, rfl⟩ := q
      rw [uI_at, uI_at]
    · simp only [uI, if_neg q]
  have loop : ∀ (m i : Nat) (v : Option AV), p + i + m = e → Sat none MX6_readValue d 117 (fun r σ => r = none ∧ σ = S0 (uI I 20 0 6 (nI (vlN t p (e - p)))) J) 10 [some (vr 20 0), some (vi (nI (p + i))), v] [] (S0 (uI I 20 0 6 (nI (vlN t p i))) J) := by
    intro m
    induction m with
    | zero =>
      intro i v hi
      have ee : e - p = i := by omega
      refine Sat.of k_X6_readValue [10] 60 ?_
      refine ⟨fun c => ⟨rfl, rfl, rfl, by rw [ee]⟩, fun c => ?_⟩
      have c : ¬ uI I 20 0 6 (nI (vlN t p i)) 20 0 4 ≤ nI (p + i) := c
      rw [uI_j (by decide), he] at c
      exact absurd (nI_le (a := e) (b := p + i) (by omega) (by omega)) c
    | succ m ih =>
      intro i v hi
      have hv := vlN_le (t := t) (p := p) (i := i)
      obtain ⟨t1, t2⟩ := h.2.2 (p + i) (by omega)
      have hd1 := hdig (p + i) (by omega) (by omega)
      have ei : (nI (p + i)).toNatClampNeg = p + i := nI_clamp (by omega)
      have e6 : uI I 20 0 6 (nI (vlN t p i)) 20 0 6 = nI (vlN t p i) := uI_at
      have e3 : uI I 20 0 6 (nI (vlN t p i)) 20 0 3 = nI p := by rw [uI_j (by decide), hp]
      have t26 : uI I 20 0 6 (nI (vlN t p i)) 26 0 (nI (p + i)).toNatClampNeg = nI (t (p + i)) := by rw [uI_t (by decide), ei, t1]
      have calc1 : (if (10000 : Int32) < uI I 20 0 6 (nI (vlN t p i)) 20 0 6 * 10 + uI I 20 0 6 (nI (vlN t p i)) 26 0 (nI (p + i)).toNatClampNeg - 48 then (10000 : Int32) else uI I 20 0 6 (nI (vlN t p i)) 20 0 6 * 10 + uI I 20 0 6 (nI (vlN t p i)) 26 0 (nI (p + i)).toNatClampNeg - 48) = nI (min (vlN t p i * 10 + t (p + i) - 48) 10000) := by
        rw [e6, t26, show (10 : Int32) = nI 10 from rfl, pk_mul, nI_add, show (48 : Int32) = nI 48 from rfl, pk_sub (by omega), show (10000 : Int32) = nI 10000 from rfl]
        exact mnI (by omega) (by decide)
      have hpi : p + i + 1 = p + (i + 1) := by omega
      have fin : ∀ (w : Option AV) (x : Int32), x = nI (vlN t p (i + 1)) → Sat none MX6_readValue d 117 (fun r σ => r = none ∧ σ = S0 (uI I 20 0 6 (nI (vlN t p (e - p)))) J) 10 [some (vr 20 0), some (vi (nI (p + i) + 1)), w] [] (S0 (uI (uI I 20 0 6 (nI (vlN t p i))) 20 0 6 x) J) := fun w x ex => by
        rw [up, ex, nI_1, hpi]
        exact ih (i + 1) w (by omega)
      refine Sat.of k_X6_readValue [10] 60 ?_
      refine ⟨fun c => ?_, fun c => ⟨fun c1 => ?_, fun c1 => ⟨fun c2 => ?_, fun c2 => ⟨fun c3 => ?_, fun c3 => ?_⟩⟩⟩⟩
      · have c : uI I 20 0 6 (nI (vlN t p i)) 20 0 4 ≤ nI (p + i) := c
        rw [uI_j (by decide), he, nI_leI (by omega) (by omega)] at c
        omega
      · have c1 : uI I 20 0 6 (nI (vlN t p i)) 20 0 2 ≤ nI (p + i) := c1
        rw [uI_j (by decide), h.1, nI_leI (by omega) (by omega)] at c1
        omega
      · have c2 : ¬ uI I 20 0 6 (nI (vlN t p i)) 20 0 6 = 0 := c2
        rw [e6] at c2
        have hne : ¬ (vlN t p i = 0 ∧ 0 < i) := fun q => c2 (by rw [q.1]; rfl)
        refine ⟨fun q => ⟨vp_in_nI (by omega) (by decide), hd, fin _ _ ?_⟩, fun q => absurd rfl q⟩
        rw [calc1]
        simp only [vlN]
        rw [if_neg hne]
      · have c3 : nI (p + i) ≤ uI I 20 0 6 (nI (vlN t p i)) 20 0 3 := c3
        rw [e3, nI_leI (by omega) (by omega)] at c3
        have hne : ¬ (vlN t p i = 0 ∧ 0 < i) := fun q => by omega
        refine ⟨fun q => ⟨vp_in_nI (by omega) (by decide), hd, fin _ _ ?_⟩, fun q => absurd rfl q⟩
        rw [calc1]
        simp only [vlN]
        rw [if_neg hne]
      · have c2 : uI I 20 0 6 (nI (vlN t p i)) 20 0 6 = 0 := c2
        rw [e6] at c2
        have h0 : vlN t p i = 0 := (nI_eq (b := 0) (by omega) (by decide)).mp c2
        have c3 : ¬ nI (p + i) ≤ uI I 20 0 6 (nI (vlN t p i)) 20 0 3 := c3
        rw [e3, nI_leI (by omega) (by omega)] at c3
        refine ⟨fun q => absurd q (by decide), fun q => fin _ _ ?_⟩
        simp only [vlN]
        rw [if_pos ⟨h0, by omega⟩]
        rfl
  refine Sat.of k_X6_readValue [10] 60 ?_
  refine (loop (e - p) 0 none (by omega)).to ?_ rfl
  rw [Nat.add_zero, ← hp]
  rfl
