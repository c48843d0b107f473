/-! The reader: items -/
abbrev Toks : Type := List (Nat × Nat)
def tls (t : Nat → Nat) (n : Nat) : Nat → Nat → Toks
  | 0, _ => []
  | f + 1, k => if tkP t n k < n then (tkP t n k, tkE t n (tkP t n k)) :: tls t n f (tkE t n (tkP t n k)) else []
def TL (t : Nat → Nat) (n k : Nat) : Toks := tls t n (n + 1 - k) k
theorem tkE_gt {t : Nat → Nat} {n p : Nat} (h : p < n) : p < tkE t n p := by
  have hk : kAt t n p = kdC (t p) := by unfold kAt; rw [if_pos h]
  have := (kdC_le (t p)).2
  unfold tkE
  split
  · rename_i q
    have hp : ruP t (kAt t n p) p = true := decide_eq_true hk.symm
    rw [pst_go h hp]
    obtain ⟨g1, _⟩ := pst_le (P := ruP t (kAt t n p)) (n := n) (m := n - (p + 1)) (k := p + 1) (by omega)
    omega
  · rw [if_neg (by omega)]
    omega
theorem tls_f {t : Nat → Nat} {n : Nat} : ∀ {f g k : Nat}, k ≤ n → n < k + f → n < k + g → tls t n f k = tls t n g k
  | 0, _, k, h0, h1, _ => absurd h1 (by omega)
  | _ + 1, 0, k, h0, _, h2 => absurd h2 (by omega)
  | f + 1, g + 1, k, h0, h1, h2 => by
    simp only [tls]
    obtain ⟨w1, w2, w3, w4⟩ := tk_le (t := t) h0
    by_cases q : tkP t n k < n
    · rw [if_pos q, if_pos q]
      have := tkE_gt (t := t) q
      rw [tls_f (f := f) (g := g) w4 (by omega) (by omega)]
    · rw [if_neg q, if_neg q]
theorem TL_cons {t : Nat → Nat} {n k : Nat} (h : k ≤ n) (q : tkP t n k < n) : TL t n k = (tkP t n k, tkE t n (tkP t n k)) :: TL t n (tkE t n (tkP t n k)) := by
  obtain ⟨w1, w2, w3, w4⟩ := tk_le (t := t) h
  have := tkE_gt (t := t) q
  unfold TL
  rw [show n + 1 - k = (n - k) + 1 by omega]
  simp only [tls]
  rw [if_pos q, tls_f (f := n - k) (g := n + 1 - tkE t n (tkP t n k)) w4 (by omega) (by omega)]
theorem TL_nil {t : Nat → Nat} {n k : Nat} (h : k ≤ n) (q : ¬ tkP t n k < n) : TL t n k = [] := by
  unfold TL
  rw [show n + 1 - k = (n - k) + 1 by omega]
  simp only [tls]
  rw [if_neg q]
def itm (t : Nat → Nat) (n : Nat) (first : Bool) (ev : Nat) (L : List Ob) (T : Toks) : (Nat × List Ob × Toks) ⊕ Nat := match T with
  | [] => .inr n
  | (p, e) :: r => if isW t n 0 p e then (match first with
      | false => .inr p
      | true => (match r with
        | [] => .inr n
        | (q, f) :: r2 => if kAt t n q = 2 ∧ 2 ≤ vlN t q (f - q) ∧ vlN t q (f - q) ≤ 5 then .inl (vlN t q (f - q), L, r2) else .inr q))
    else (match evO t n ev p e with
      | none => .inr p
      | some x => if 8 ≤ L.length then .inr p else (match r with
        | [] => .inr n
        | (q, f) :: r2 => if 1 ≤ stR t n q f ∧ stR t n q f ≤ 8191 then (match r2 with
            | [] => .inr n
            | (u, v) :: r3 => (match evO t n ev u v with
              | none => .inr u
              | some y => if y = x then .inr u else .inl (ev, L ++ [(x, stR t n q f, y)], r3)))
          else .inr q))
def frE (I I1 : SI) : Prop := (∀ t k, ¬ (t = 20 ∧ k = 0) → ¬ (3 ≤ t ∧ t ≤ 6 ∧ k = 0) → I1 t k = I t k) ∧ I1 20 0 2 = I 20 0 2
theorem frE.rf {I : SI} : frE I I := ⟨fun _ _ _ _ => rfl, rfl⟩
theorem frE.tr {I I1 I2 : SI} (h : frE I I1) (h1 : frE I1 I2) : frE I I2 := ⟨fun t k q1 q2 => (h1.1 t k q1 q2).trans (h.1 t k q1 q2), h1.2.trans h.2⟩
theorem frD.E {I I1 : SI} (h : frD I I1) : frE I I1 := ⟨fun t k q1 _ => h.1 t k q1, h.2⟩
theorem frB.E {I I1 : SI} (h : frB 0 I I1) : frE I I1 := ⟨fun t k _ q2 => h t k q2, by rw [h 20 0 (by omega)]⟩
theorem TX.E {I I1 : SI} {n : Nat} {t : Nat → Nat} (h : TX I n t) (hf : frE I I1) : TX I1 n t := by
  unfold TX at h ⊢
  rw [hf.2, hf.1 26 0 (by omega) (by omega)]
  exact h
theorem BK.D {I I1 : SI} {b ev : Nat} {L : List Ob} (h : BK I b ev L) (hf : frD I I1) : BK I1 b ev L := by
  unfold BK at h ⊢
  rw [hf.1 3 b (by omega), hf.1 4 b (by omega), hf.1 5 b (by omega), hf.1 6 b (by omega)]
  exact h
/-- after an item -/
def RES (I : SI) (n : Nat) (t : Nat → Nat) (R : (Nat × List Ob × Toks) ⊕ Nat) (b : Bool) : Prop := match R with
  | .inl (ev, L, r) => b = true ∧ BK I 0 ev L ∧ ∃ k, k ≤ n ∧ I 20 0 4 = nI k ∧ TL t n k = r
  | .inr q => b = false ∧ I 20 0 3 = nI q
/-- behind k the token from p to e was read -/
theorem TOK.now {I : SI} {n : Nat} {t : Nat → Nat} {k : Nat} (h : TOK I n t k) (hk : k ≤ n) : ∃ p e, TKS I n t p e ∧ ((p < n ∧ TL t n k = (p, e) :: TL t n e ∧ k < e) ∨ (p = n ∧ TL t n k = [] ∧ kAt t n p = 0)) := by
  obtain ⟨w1, w2, w3, w4⟩ := tk_le (t := t) hk
  refine ⟨tkP t n k, tkE t n (tkP t n k), ⟨h, rfl, w3, w4⟩, ?_⟩
  by_cases q : tkP t n k < n
  · have := tkE_gt (t := t) q
    exact Or.inl ⟨q, TL_cons hk q, by omega⟩
  · refine Or.inr ⟨by omega, TL_nil hk q, ?_⟩
    unfold kAt
    rw [if_neg q]
set_option maxRecDepth 10000 in
theorem c_readEvents (I : SI) (J : SJ) (n k ev : Nat) (L : List Ob) (t : Nat → Nat) (h : TX I n t) (hB : BK I 0 ev L) (hk : I 20 0 4 = nI k) (hkn : k ≤ n) (d : Nat) (hd : 2 < d) : Tri d YX6_readEvents 117 [vr 20 0] (S0 I J) (fun r σ => ∃ b I1, r = some (vi (bi b)) ∧ σ = S0 I1 J ∧ frE I I1 ∧ RES I1 n t (match TL t n k with | [] => .inr n | (q, f) :: r2 => if kAt t n q = 2 ∧ 2 ≤ vlN t q (f - q) ∧ vlN t q (f - q) ≤ 5 then .inl (vlN t q (f - q), L, r2) else .inr q) b) := by
  refine Tri.of (M := MX6_readEvents) k_X6_readEvents ⟨Nat.le_refl _, Nat.le_refl _⟩ (Nat.le_of_ble_eq_true rfl) ?_
  refine Sat.of k_X6_readEvents [] 60 ?_
  refine ⟨2, 117, hd, Nat.le_refl _, (c_readToken I J n k t h hk hkn 2 (by decide)).mono ?_⟩
  rintro r σ ⟨rfl, I1, rfl, f1, f2⟩
  obtain ⟨p, e, ⟨⟨a1, a2, a3, a4⟩, b1, b2, b3⟩, hc⟩ := f2.now hkn
  have hk4 := kAt_le (t := t) (n := n) (p := p)
  have hv := vlN_le (t := t) (p := p) (i := e - p)
  have bad : ¬ (kAt t n p = 2 ∧ 2 ≤ vlN t p (e - p) ∧ vlN t p (e - p) ≤ 5) → ∃ b I2, some (vi (0 : Int32)) = some (vi (bi b)) ∧ S0 I1 J = S0 I2 J ∧ frE I I2 ∧ RES I2 n t (match TL t n k with | [] => .inr n | (q, f) :: r2 => if kAt t n q = 2 ∧ 2 ≤ vlN t q (f - q) ∧ vlN t q (f - q) ≤ 5 then .inl (vlN t q (f - q), L, r2) else .inr q) b := fun q => by
    refine ⟨false, I1, rfl, rfl, f1.E, ?_⟩
    rcases hc with ⟨c1, c2, _⟩ | ⟨c1, c2, c3⟩
    · rw [c2]
      simp only
      rw [if_neg q]
      exact ⟨rfl, a1⟩
    · rw [c2]
      exact ⟨rfl, by rw [a1, c1]⟩
  refine ⟨fun c => ⟨rfl, Or.inl rfl, bad ?_⟩, fun c => ⟨fun c1 => ⟨rfl, Or.inl rfl, bad ?_⟩, fun c1 => ⟨fun c2 => ⟨rfl, Or.inr rfl, ?_⟩, fun c2 => ⟨rfl, Or.inl rfl, bad ?_⟩⟩⟩⟩
  · have c : ¬ I1 20 0 5 = nI 2 := c
    rw [a3] at c
    exact fun q => c (by rw [q.1])
  · have c : I1 20 0 5 = nI 2 := c
    rw [a3] at c
    have e2 := (nI_eq (by omega) (by decide)).mp c
    have c1 : I1 20 0 6 < nI 2 := c1
    rw [a4 e2, nI_ltI (by omega) (by decide)] at c1
    omega
  · have c : I1 20 0 5 = nI 2 := c
    rw [a3] at c
    have e2 := (nI_eq (by omega) (by decide)).mp c
    have c1 : ¬ I1 20 0 6 < nI 2 := c1
    rw [a4 e2, nI_ltI (by omega) (by decide)] at c1
    have c2 : I1 20 0 6 ≤ nI 5 := c2
    rw [a4 e2, nI_leI (by omega) (by decide)] at c2
    refine ⟨true, uI I1 3 0 4 (nI (vlN t p (e - p))), rfl, ?_, ?_, ?_⟩
    · show (uI I1 3 0 4 (I1 20 0 6), J, 117, aT) = _
      rw [a4 e2]
    · exact f1.E.tr ⟨fun a b q1 q2 => by rw [uI_ne (fun q => q2 (by cases q; decide))], by rw [uI_t (by decide)]⟩
    · rcases hc with ⟨g1, g2, _⟩ | ⟨g1, g2, g3⟩
      · rw [g2]
        simp only
        rw [if_pos ⟨e2, by omega, by omega⟩]
        have hB1 := hB.D f1
        obtain ⟨y1, y2, y3, y4, y5, y6⟩ := hB1
        refine ⟨rfl, ⟨uI_at, by rw [uI_j (by decide)]; exact y2, y3, by omega, by omega, fun j hj => ?_⟩, e, b3, by rw [uI_t (by decide)]; exact a2, rfl⟩
        rw [uI_t (by decide), uI_t (by decide), uI_t (by decide)]
        exact y6 j hj
      · omega
  · have c : I1 20 0 5 = nI 2 := c
    rw [a3] at c
    have e2 := (nI_eq (by omega) (by decide)).mp c
    have c2 : ¬ I1 20 0 6 ≤ nI 5 := c2
    rw [a4 e2, nI_leI (by omega) (by decide)] at c2
    omega
