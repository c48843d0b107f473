/-! Histories: by trying one pair after another -/
def agX (N : NF) (x y r : Nat) (l : HS) : Bool := (N x y).testBit r && allN x (fun z => (TT (l (PRb z x)) r).testBit (l (PRb z y)))
def agP (N : NF) (p r : Nat) (l : HS) : Bool := agX N (loT p) (hiT p) r l
def catF {α : Type} (f : Nat → List α) : Nat → Nat → List α
  | _, 0 => []
  | i, m + 1 => f i ++ catF f (i + 1) m
theorem catF_mem {α : Type} {f : Nat → List α} {a : α} : ∀ {m i : Nat}, a ∈ catF f i m → ∃ r, i ≤ r ∧ r < i + m ∧ a ∈ f r
  | 0, _, h => by simp [catF] at h
  | m + 1, i, h => by
    simp only [catF, List.mem_append] at h
    rcases h with h | h
    · exact ⟨i, Nat.le_refl _, by omega, h⟩
    · obtain ⟨r, h1, h2, h3⟩ := catF_mem h
      exact ⟨r, by omega, by omega, h3⟩
theorem catF_congr {α : Type} {f g : Nat → List α} : ∀ {m i : Nat}, (∀ r, i ≤ r → r < i + m → f r = g r) → catF f i m = catF g i m
  | 0, _, _ => rfl
  | m + 1, i, h => by
    simp only [catF]
    rw [h i (Nat.le_refl _) (by omega), catF_congr (fun r h1 h2 => h r (by omega) (by omega))]
/-- all that goes on from l at the pair p, k pairs being open -/
def ext (N : NF) : Nat → Nat → HS → List HS
  | 0, _, l => [l]
  | k + 1, p, l => catF (fun r => if agP N p r l then ext N k (p + 1) (put1 l p r) else []) 0 13
def GOOD (N : NF) (P : Nat) (l : HS) : Prop := ∀ q, q < P → l q < 13 ∧ agP N q (l q) l = true
theorem prb_lt1 : ∀ y, y < 5 → ∀ x, x < y → ∀ z, z < x → PRb z x < PRb x y := by decide +kernel
theorem prb_lt2 {x y z : Nat} (h : z < x) : PRb z y < PRb x y := by unfold PRb; omega
theorem lohi_of : ∀ y, y < 5 → ∀ x, x < y → loT (PRb x y) = x ∧ hiT (PRb x y) = y := by decide +kernel
theorem agX_congr {N : NF} {x y r : Nat} {l l1 : HS} (hy : y < 5) (hx : x < y) (h : ∀ q, q < PRb x y → l1 q = l q) : agX N x y r l1 = agX N x y r l := by
  unfold agX
  congr 1
  rw [Bool.eq_iff_iff, allN_t, allN_t]
  constructor
  · intro g z hz
    have := g z hz
    rw [h _ (prb_lt1 y hy x hx z hz), h _ (prb_lt2 hz)] at this
    exact this
  · intro g z hz
    rw [h _ (prb_lt1 y hy x hx z hz), h _ (prb_lt2 hz)]
    exact g z hz
theorem agP_congr {N : NF} {p r : Nat} {l l1 : HS} (hp : p < 10) (h : ∀ q, q < p → l1 q = l q) : agP N p r l1 = agP N p r l := by
  obtain ⟨t1, t2, t3⟩ := lohi_t p hp
  exact agX_congr t2 t1 (by rw [t3]; exact h)
theorem GOOD.congr {N : NF} {P : Nat} {l l1 : HS} (h : GOOD N P l) (hP : P ≤ 10) (e : ∀ q, q < P → l1 q = l q) : GOOD N P l1 := fun q hq => by
  rw [e q hq, agP_congr (by omega) (fun k hk => e k (by omega))]
  exact h q hq
theorem ext_mem {N : NF} {P : Nat} (hP : P ≤ 10) {l1 : HS} : ∀ {k p : Nat} {l : HS}, p + k = P → GOOD N p l → l1 ∈ ext N k p l → GOOD N P l1 ∧ ∀ q, q < p → l1 q = l q
  | 0, p, l, hp, hg, h => by
    simp only [ext, List.mem_singleton] at h
    subst h
    rw [← hp]
    exact ⟨hg, fun _ _ => rfl⟩
  | k + 1, p, l, hp, hg, h => by
    obtain ⟨r, _, hr, h1⟩ := catF_mem h
    by_cases e : agP N p r l = true
    · rw [if_pos e] at h1
      have ek : ∀ q, q < p → put1 l p r q = l q := fun q hq => put1_ne (by omega)
      obtain ⟨g1, g2⟩ := ext_mem hP (k := k) (p := p + 1) (l := put1 l p r) (by omega) (fun q hq => by
        by_cases eq : q = p
        · subst eq
          rw [put1_at, agP_congr (by omega) ek]
          exact ⟨by omega, e⟩
        · rw [ek q (by omega), agP_congr (by omega) (fun j hj => ek j (by omega))]
          exact hg q (by omega)) h1
      exact ⟨g1, fun q hq => by rw [g2 q (by omega), ek q hq]⟩
    · rw [if_neg e] at h1
      simp at h1
theorem ext_nil {N : NF} {P k p : Nat} {l : HS} (hP : P ≤ 10) (hp : p + k = P) (hg : GOOD N p l) (h : ∀ l1, GOOD N P l1 → (∀ q, q < p → l1 q = l q) → False) : ext N k p l = [] := by
  cases e : ext N k p l with
  | nil => rfl
  | cons a t =>
    obtain ⟨g1, g2⟩ := ext_mem hP hp hg (l1 := a) (by rw [e]; exact List.mem_cons_self)
    exact absurd (h a g1 g2) (fun q => q)
theorem GOOD.tri {N : NF} {P : Nat} {l : HS} (h : GOOD N P l) {x y z : Nat} (hxy : x < y) (hyz : y < z) (hz : z < 5) (hP : PRb y z < P) : (TT (l (PRb x y)) (l (PRb y z))).testBit (l (PRb x z)) = true := by
  have := (h (PRb y z) hP).2
  unfold agP agX at this
  obtain ⟨e1, e2⟩ := lohi_of z hz y hyz
  rw [e1, e2, Bool.and_eq_true, allN_t] at this
  exact this.2 x hxy
theorem GOOD.in {N : NF} {P : Nat} {l : HS} (h : GOOD N P l) {y z : Nat} (hyz : y < z) (hz : z < 5) (hP : PRb y z < P) : (N y z).testBit (l (PRb y z)) = true ∧ l (PRb y z) < 13 := by
  have := h (PRb y z) hP
  unfold agP agX at this
  obtain ⟨e1, e2⟩ := lohi_of z hz y hyz
  rw [e1, e2, Bool.and_eq_true] at this
  exact ⟨this.2.1, this.1⟩
/-! stages -/
def SG (N : NF) (ev : Nat) (l : HS) (p : Nat) (S : NF) (y : Nat) : Prop := (∀ a b, a < b → b < ev → y ≤ b → S a b < 8192 ∧ Sub (S a b) (N a b)) ∧ ∀ l1, GOOD N (PRb 0 ev) l1 → (∀ q, q < p → l1 q = l q) → ∀ a b, a < b → b < ev → y ≤ b → (S a b).testBit (l1 (PRb a b)) = true
theorem SG.more {N S : NF} {ev y p p1 : Nat} {l l1 : HS} (h : SG N ev l p S y) (hp : p ≤ p1) (e : ∀ q, q < p → l1 q = l q) : SG N ev l1 p1 S y := ⟨h.1, fun l2 g1 g2 => h.2 l2 g1 (fun q hq => by rw [g2 q (by omega), e q hq])⟩
def nset (S : NF) (l : HS) (y z : Nat) : Nat → Nat
  | 0 => S y z
  | x + 1 => nset S l y z x &&& rowF (12 - l (PRb x y)) (S x z)
theorem nset_lt {S : NF} {l : HS} {y z : Nat} (h : S y z < 8192) : ∀ {x : Nat}, nset S l y z x < 8192
  | 0 => h
  | _ + 1 => and_lt13 (nset_lt h)
theorem nset_sub {S : NF} {l : HS} {y z : Nat} : ∀ {x : Nat}, Sub (nset S l y z x) (S y z)
  | 0 => Sub.rf
  | _ + 1 => Sub.and_l.tr nset_sub
theorem nset_bit {S : NF} {l l1 : HS} {y z : Nat} (h0 : (S y z).testBit (l1 (PRb y z)) = true) (hy : l1 (PRb y z) < 13) : ∀ {x : Nat}, (∀ a, a < x → l1 (PRb a y) = l (PRb a y) ∧ l1 (PRb a y) < 13 ∧ l1 (PRb a z) < 13 ∧ (S a z).testBit (l1 (PRb a z)) = true ∧ (TT (l1 (PRb a y)) (l1 (PRb y z))).testBit (l1 (PRb a z)) = true) → (nset S l y z x).testBit (l1 (PRb y z)) = true
  | 0, _ => h0
  | x + 1, h => by
    simp only [nset]
    rw [Nat.testBit_and, Bool.and_eq_true]
    refine ⟨nset_bit h0 hy (fun a ha => h a (by omega)), ?_⟩
    obtain ⟨q1, q2, q3, q4, q5⟩ := h x (by omega)
    rw [rowF_bit]
    refine ⟨l1 (PRb x z), q3, q4, ?_⟩
    rw [← q1, T2, if_neg (by omega), ← tt_peirce _ q2 _ hy _ q3]
    exact q5
def NW (S : NF) (l : HS) (y z : Nat) : NF := fun a b => if b = z then (if a = y then nset S l y z y else if a < y then S a z &&& rowF (l (PRb a y)) (nset S l y z y) else S a b) else S a b
theorem SG.nw {N S : NF} {ev y z p : Nat} {l : HS} (h : SG N ev l p S (y + 1)) (h5 : ev ≤ 5) (hyz : y < z) (hz : z < ev) (hp : PRb 0 (y + 1) ≤ p) : SG N ev l p (NW S l y z) (y + 1) ∧ ∀ l1, GOOD N (PRb 0 ev) l1 → (∀ q, q < p → l1 q = l q) → (nset S l y z y).testBit (l1 (PRb y z)) = true := by
  have hpl : ∀ a b, a < b → b < ev → PRb a b < PRb 0 ev := fun a b hab hb => pr0_lt ev (by omega) b hb a hab
  have hpy : ∀ x, x < y → PRb x y < p := fun x hx => Nat.lt_of_lt_of_le (pr0_lt (y + 1) (by omega) y (by omega) x hx) hp
  have hset : ∀ l1, GOOD N (PRb 0 ev) l1 → (∀ q, q < p → l1 q = l q) → (nset S l y z y).testBit (l1 (PRb y z)) = true := fun l1 g1 g2 =>
    nset_bit (h.2 l1 g1 g2 y z hyz hz (by omega)) (g1 _ (hpl y z hyz hz)).1 (fun a ha => ⟨g2 _ (hpy a ha), (g1 _ (hpl a y ha (by omega))).1, (g1 _ (hpl a z (by omega) hz)).1, h.2 l1 g1 g2 a z (by omega) hz (by omega), g1.tri ha hyz (by omega) (hpl y z hyz hz)⟩)
  refine ⟨⟨fun a b hab hb hyb => ?_, fun l1 g1 g2 a b hab hb hyb => ?_⟩, hset⟩
  · unfold NW
    obtain ⟨q1, q2⟩ := h.1 a b hab hb hyb
    by_cases e : b = z
    · subst e
      rw [if_pos rfl]
      by_cases e1 : a = y
      · subst e1
        rw [if_pos rfl]
        exact ⟨nset_lt q1, nset_sub.tr q2⟩
      · rw [if_neg e1]
        by_cases e2 : a < y
        · rw [if_pos e2]
          exact ⟨and_lt13 q1, Sub.and_l.tr q2⟩
        · rw [if_neg e2]
          exact ⟨q1, q2⟩
    · rw [if_neg e]
      exact ⟨q1, q2⟩
  · unfold NW
    have q := h.2 l1 g1 g2 a b hab hb hyb
    by_cases e : b = z
    · subst e
      rw [if_pos rfl]
      by_cases e1 : a = y
      · subst e1
        rw [if_pos rfl]
        exact hset l1 g1 g2
      · rw [if_neg e1]
        by_cases e2 : a < y
        · rw [if_pos e2, Nat.testBit_and, Bool.and_eq_true]
          refine ⟨q, ?_⟩
          rw [rowF_bit]
          refine ⟨l1 (PRb y b), (g1 _ (hpl y b hyz hb)).1, hset l1 g1 g2, ?_⟩
          have e3 := g2 _ (hpy a e2)
          have e4 := (g1 _ (hpl a y e2 (by omega))).1
          rw [← e3, T2, if_neg (by omega)]
          exact g1.tri e2 hyz (by omega) (hpl y b hyz hb)
        · rw [if_neg e2]
          exact q
    · rw [if_neg e]
      exact q
def ROW (I : SI) (K ev : Nat) (S : NF) : Prop := ∀ a b, a < b → b < ev → I 10 K (5 * a + b) = nI (S a b) ∧ S a b < 8192
def frR (K : Nat) (I I1 : SI) : Prop := ∀ t k, ¬ (t = 10 ∧ k = K) → I1 t k = I t k
theorem frR.rf {K : Nat} {I : SI} : frR K I I := fun _ _ _ => rfl
theorem frR.tr {K : Nat} {I I1 I2 : SI} (h : frR K I I1) (h1 : frR K I1 I2) : frR K I I2 := fun t k hk => (h1 t k hk).trans (h t k hk)
theorem ALG.frR {K : Nat} {I I1 : SI} (h : ALG I) (hf : frR K I I1) : ALG I1 := by
  unfold ALG at h ⊢
  rw [hf 1 0 (by omega), hf 2 0 (by omega)]
  exact h
set_option maxRecDepth 10000 in
theorem c_narrowL (I : SI) (J : SJ) (m K ev y z : Nat) (S : NF) (l : HS) (hA : ALG I) (h : ROW I K ev S) (hc : ∀ x, x < y → I 13 m (PRb x y) = nI (l (PRb x y)) ∧ l (PRb x y) < 13) (h5 : ev ≤ 5) (hyz : y < z) (hz : z < ev) (d : Nat) (hd : 0 < d) : Tri d YX3_narrow 117 [vr 8 m, vr 10 K, vi (nI y), vi (nI z)] (S0 I J) (fun r σ => r = some (vi (nI (nset S l y z y))) ∧ ∃ I1, σ = S0 I1 J ∧ ROW I1 K ev (NW S l y z) ∧ frR K I I1) := by
  refine Tri.of (M := MX3_narrow) k_X3_narrow ⟨Nat.le_refl _, Nat.le_refl _⟩ (Nat.le_of_ble_eq_true rfl) ?_
  have eyz : (nI y * 5 + nI z).toNatClampNeg = 5 * y + z := by rw [ix5, nI_clamp (by omega)]
  have hyz0 := h y z hyz hz
  have hns := nset_lt (l := l) hyz0.2 (x := y)
  have loop2 : ∀ (n x : Nat) (I1 : SI), x + n = y → frR K I I1 → (∀ a b, a < b → b < ev → I1 10 K (5 * a + b) = nI (if b = z then (if a = y then nset S l y z y else if a < x then S a z &&& rowF (l (PRb a y)) (nset S l y z y) else S a b) else S a b)) → Sat none MX3_narrow d 117 (fun r σ => r = some (vi (nI (nset S l y z y))) ∧ ∃ I1, σ = S0 I1 J ∧ ROW I1 K ev (NW S l y z) ∧ frR K I I1) 73 [some (vr 8 m), some (vr 10 K), some (vi (nI y)), some (vi (nI z)), some (vi (nI (nset S l y z y))), some (vi (nI x))] [] (S0 I1 J) := by
    intro n
    induction n with
    | zero =>
      intro x I1 hx f1 f2
      have e : x = y := by omega
      subst e
      refine Sat.of k_X3_narrow [12, 73] 60 ?_
      refine ⟨fun c => ⟨rfl, trivial, rfl, I1, rfl, fun a b hab hb => ⟨f2 a b hab hb, ?_⟩, f1⟩, fun c => absurd (nI_le (a := x) (b := x) (Nat.le_refl _) (by omega)) c⟩
      have := (h a b hab hb).2
      unfold NW
      split
      · split
        · exact hns
        · split
          · rename_i e1 _ _
            subst e1
            exact and_lt13 this
          · exact this
      · exact this
    | succ n ih =>
      intro x I1 hx f1 f2
      have exz : (nI x * 5 + nI z).toNatClampNeg = 5 * x + z := by rw [ix5, nI_clamp (by omega)]
      have hxz0 := h x z (by omega) hz
      have fx := f2 x z (by omega) hz
      rw [if_pos rfl, if_neg (by omega), if_neg (by omega)] at fx
      obtain ⟨hc1, hc2⟩ := hc x (by omega)
      have hp10 := PRb_lt y (by omega) x (by omega)
      refine Sat.of k_X3_narrow [12, 73] 60 ?_
      refine ⟨fun c => absurd ((nI_leI (a := y) (by omega) (by omega)).mp c) (by omega), fun c => ⟨?_, 0, 117, hd, Nat.le_refl _, (c_pairOf I1 J x y (by omega) (by omega) 0).mono ?_⟩⟩
      · show vp_in (nI x * 5 + nI z) 25
        rw [ix5]
        exact vp_in_nI (by omega) (by omega)
      · rintro r σ ⟨rfl, rfl⟩
        refine ⟨vp_in_nI (by omega) (by decide), 0, 117, hd, Nat.le_refl _, (c_composeOne I1 J (l (PRb x y)) (nset S l y z y) (hA.frR f1) hc2 hns 0).to ?_ rfl ?_⟩
        · show [vr 0 0, vi (I1 13 m (nI (PRb x y)).toNatClampNeg), vi (nI (nset S l y z y))] = _
          rw [nI_clamp (by omega), f1 13 m (by omega), hc1]
        · rintro r σ ⟨rfl, rfl⟩
          refine ⟨?_, (ih (x + 1) (uI I1 10 K (5 * x + z) (nI (S x z &&& rowF (l (PRb x y)) (nset S l y z y)))) (by omega) ?_ ?_).to (by rw [← nI_1]; rfl) ?_⟩
          · show vp_in (nI x * 5 + nI z) 25
            rw [ix5]
            exact vp_in_nI (by omega) (by omega)
          · intro t k hk
            rw [uI_ne (fun q => hk (by cases q; exact ⟨rfl, rfl⟩))]
            exact f1 t k hk
          · intro a b hab hb
            by_cases e : a = x ∧ b = z
            · obtain ⟨rfl, rfl⟩ := e
              rw [uI_at, if_pos rfl, if_neg (by omega), if_pos (by omega)]
            · rw [uI_j (fun q => e (ix5_inj (by omega) (by omega) q)), f2 a b hab hb]
              by_cases e1 : b = z
              · subst e1
                have : a ≠ x := fun q => e ⟨q, rfl⟩
                rw [if_pos rfl, if_pos rfl]
                by_cases e2 : a = y
                · rw [if_pos e2, if_pos e2]
                · rw [if_neg e2, if_neg e2]
                  by_cases e3 : a < x
                  · rw [if_pos e3, if_pos (by omega)]
                  · rw [if_neg e3, if_neg (by omega)]
              · rw [if_neg e1, if_neg e1]
          · show (uI I1 10 K (nI x * 5 + nI z).toNatClampNeg (I1 10 K (nI x * 5 + nI z).toNatClampNeg &&& nI (rowF (l (PRb x y)) (nset S l y z y))), J, 117, aT) = _
            rw [exz, fx, nx_an]
  have loop1 : ∀ (n x : Nat), x + n = y → Sat none MX3_narrow d 117 (fun r σ => r = some (vi (nI (nset S l y z y))) ∧ ∃ I1, σ = S0 I1 J ∧ ROW I1 K ev (NW S l y z) ∧ frR K I I1) 12 [some (vr 8 m), some (vr 10 K), some (vi (nI y)), some (vi (nI z)), some (vi (nI (nset S l y z x))), some (vi (nI x))] [] (S0 I J) := by
    intro n
    induction n with
    | zero =>
      intro x hx
      have e : x = y := by omega
      subst e
      refine Sat.of k_X3_narrow [12, 73] 60 ?_
      refine ⟨fun c => ⟨?_, (loop2 x 0 (uI I 10 K (5 * x + z) (nI (nset S l x z x))) (by omega) ?_ ?_).to rfl ?_⟩, fun c => absurd (nI_le (a := x) (b := x) (Nat.le_refl _) (by omega)) c⟩
      · show vp_in (nI x * 5 + nI z) 25
        rw [ix5]
        exact vp_in_nI (by omega) (by omega)
      · intro t k hk
        rw [uI_ne (fun q => hk (by cases q; exact ⟨rfl, rfl⟩))]
      · intro a b hab hb
        by_cases e : a = x ∧ b = z
        · obtain ⟨rfl, rfl⟩ := e
          rw [uI_at, if_pos rfl, if_pos rfl]
        · rw [uI_j (fun q => e (ix5_inj (by omega) (by omega) q)), (h a b hab hb).1]
          by_cases e1 : b = z
          · rw [if_pos e1, if_neg (fun q => e ⟨q, e1⟩), if_neg (by omega)]
          · rw [if_neg e1]
      · show (uI I 10 K (nI x * 5 + nI z).toNatClampNeg (nI (nset S l x z x)), J, 117, aT) = _
        rw [eyz]
    | succ n ih =>
      intro x hx
      have exz : (nI x * 5 + nI z).toNatClampNeg = 5 * x + z := by rw [ix5, nI_clamp (by omega)]
      obtain ⟨hx1, hx2⟩ := h x z (by omega) hz
      obtain ⟨hc1, hc2⟩ := hc x (by omega)
      have hp10 := PRb_lt y (by omega) x (by omega)
      refine Sat.of k_X3_narrow [12, 73] 60 ?_
      refine ⟨fun c => absurd ((nI_leI (a := y) (by omega) (by omega)).mp c) (by omega), fun c => ⟨0, 117, hd, Nat.le_refl _, (c_pairOf I J x y (by omega) (by omega) 0).mono ?_⟩⟩
      rintro r σ ⟨rfl, rfl⟩
      refine ⟨vp_in_nI (by omega) (by decide), ?_, 0, 117, hd, Nat.le_refl _, (c_composeOne I J (12 - l (PRb x y)) (S x z) hA (by omega) hx2 0).to ?_ rfl ?_⟩
      · show vp_in (nI x * 5 + nI z) 25
        rw [ix5]
        exact vp_in_nI (by omega) (by omega)
      · show [vr 0 0, vi ((12 : Int32) - I 13 m (nI (PRb x y)).toNatClampNeg), vi (I 10 K (nI x * 5 + nI z).toNatClampNeg)] = _
        rw [nI_clamp (by omega), hc1, exz, hx1, show (12 : Int32) = nI 12 from rfl, pk_sub (by omega)]
      · rintro r σ ⟨rfl, rfl⟩
        refine (ih (x + 1) (by omega)).to ?_ rfl
        simp only [nset]
        rw [← nI_1, ← nx_an]
        rfl
  refine Sat.of k_X3_narrow [12, 73] 60 ?_
  refine ⟨?_, (loop1 y 0 (by omega)).to ?_ rfl⟩
  · show vp_in (nI y * 5 + nI z) 25
    rw [ix5]
    exact vp_in_nI (by omega) (by omega)
  · simp only [nset]
    rw [← hyz0.1, ← eyz]
    rfl
