/-! The line: zones -/
def ZS (b e k : Nat) : Nat := match k with
  | 0 => 1
  | 1 => b
  | 2 => b + 1
  | 3 => e
  | _ => e + 1
def ZT (b e k : Nat) : Nat := match k with
  | 0 => b - 1
  | 1 => b
  | 2 => e - 1
  | 3 => e
  | _ => 242
def zb (r : Nat) : Nat := nthD [4, 3, 2, 1, 0, 0, 1, 2, 2, 1, 0, 0, 0] r 0
def ze (r : Nat) : Nat := nthD [4, 4, 4, 4, 4, 3, 3, 3, 2, 2, 2, 1, 0] r 0
theorem zb_c : ∀ r, r < 13 → nthD c62 r 0 = nI (zb r) := by decide +kernel
theorem ze_c : ∀ r, r < 13 → nthD c63 r 0 = nI (ze r) := by decide +kernel
theorem zb_5 : ∀ r, r < 13 → zb r < 5 := by decide +kernel
theorem ze_5 : ∀ r, r < 13 → ze r < 5 := by decide +kernel
theorem zbe : ∀ r, r < 13 → zb r < ze r ∨ (zb r = ze r ∧ (zb r = 0 ∨ zb r = 2 ∨ zb r = 4)) := by decide +kernel
theorem five {k : Nat} (h : k < 5) : k = 0 ∨ k = 1 ∨ k = 2 ∨ k = 3 ∨ k = 4 := by omega
def cmq (p q : Nat) : Nat := if p < q then 0 else if p = q then 1 else 2
theorem cmq_0 {p q : Nat} : cmq p q = 0 ↔ p < q := by
  unfold cmq
  split
  · simp; assumption
  · split <;> simp <;> omega
theorem cmq_1 {p q : Nat} : cmq p q = 1 ↔ p = q := by
  unfold cmq
  split
  · simp; omega
  · split <;> simp <;> omega
theorem cmq_2 {p q : Nat} : cmq p q = 2 ↔ q < p := by
  unfold cmq
  split
  · simp; omega
  · split <;> simp <;> omega
theorem cmq_le {p q : Nat} : cmq p q ≤ 1 ↔ p ≤ q := by
  unfold cmq
  split
  · simp; omega
  · split <;> simp <;> omega
theorem cmq_sw {p q : Nat} : cmq q p = 2 - cmq p q := by
  unfold cmq
  by_cases h : p < q
  · rw [if_pos h, if_neg (by omega), if_neg (by omega)]
  · by_cases h1 : p = q
    · rw [if_neg (by omega), if_pos h1.symm, if_neg h, if_pos h1]
    · rw [if_pos (by omega), if_neg h, if_neg h1]
/-- whether zone k of one begins no later than zone j of another ends -/
def fOK (k j bb be eb ee : Nat) : Bool := match k, j with
  | 0, _ => true
  | 1, 0 => decide (bb = 0)
  | 1, 1 => decide (bb ≤ 1)
  | 1, 2 => decide (be = 0)
  | 1, 3 => decide (be ≤ 1)
  | 2, 0 => decide (bb = 0)
  | 2, 1 => decide (bb = 0)
  | 2, 2 => decide (be = 0)
  | 2, 3 => decide (be = 0)
  | 3, 0 => decide (eb = 0)
  | 3, 1 => decide (eb ≤ 1)
  | 3, 2 => decide (ee = 0)
  | 3, 3 => decide (ee ≤ 1)
  | 4, 0 => decide (eb = 0)
  | 4, 1 => decide (eb = 0)
  | 4, 2 => decide (ee = 0)
  | 4, 3 => decide (ee = 0)
  | _, _ => true
theorem fOK_t {b e b1 e1 k j : Nat} (hk : k < 5) (hj : j < 5) (g1 : b < b1 → b + 2 ≤ b1) (g2 : b < e1 → b + 2 ≤ e1) (g3 : e < b1 → e + 2 ≤ b1) (g4 : e < e1 → e + 2 ≤ e1) (l1 : 2 ≤ b1) (l2 : 2 ≤ e1) (l3 : b ≤ 241) (l4 : e ≤ 241) : fOK k j (cmq b b1) (cmq b e1) (cmq e b1) (cmq e e1) = true ↔ ZS b e k ≤ ZT b1 e1 j := by
  rcases five hk with rfl | rfl | rfl | rfl | rfl <;> rcases five hj with rfl | rfl | rfl | rfl | rfl <;> simp only [fOK, ZS, ZT, decide_eq_true_eq, cmq_0, cmq_le, true_iff] <;> omega
/-- where a time in zone k lies to the begin, to the end -/
def zc1 (k : Nat) : Nat := match k with
  | 0 => 2
  | 1 => 1
  | _ => 0
def zc2 (k : Nat) : Nat := match k with
  | 4 => 0
  | 3 => 1
  | _ => 2
def inZ (b e k t : Nat) : Prop := ZS b e k ≤ t ∧ t ≤ ZT b e k
theorem inZ_c {b e k t : Nat} (hk : k < 5) (h : inZ b e k t) (hbe : b < e) (hb : 0 < b) : cmq b t = zc1 k ∧ cmq e t = zc2 k := by
  unfold inZ at h
  rcases five hk with rfl | rfl | rfl | rfl | rfl <;> simp only [ZS, ZT] at h <;> simp only [zc1, zc2, cmq_0, cmq_1, cmq_2] <;> omega
def agB (l r s : Nat) : Bool := fOK (zb s) (zb r) (zc1 (zb l)) (zc1 (ze l)) (zc2 (zb l)) (zc2 (ze l)) && fOK (zb r) (zb s) (2 - zc1 (zb l)) (2 - zc2 (zb l)) (2 - zc1 (ze l)) (2 - zc2 (ze l)) && fOK (ze s) (ze r) (zc1 (zb l)) (zc1 (ze l)) (zc2 (zb l)) (zc2 (ze l)) && fOK (ze r) (ze s) (2 - zc1 (zb l)) (2 - zc2 (zb l)) (2 - zc1 (ze l)) (2 - zc2 (ze l))
theorem agB_t : ∀ l, l < 13 → ∀ r, r < 13 → ∀ s, s < 13 → agB l r s = (TT l r).testBit s := by decide +kernel
/-- x from b to e has r to y from b1 to e1 -/
def RLT (b e b1 e1 r : Nat) : Prop := inZ b e (zb r) b1 ∧ inZ b e (ze r) e1
/-- the zones of r and s meet -/
def meet (b e b1 e1 r s : Nat) : Prop := ZS b e (zb s) ≤ ZT b1 e1 (zb r) ∧ ZS b1 e1 (zb r) ≤ ZT b e (zb s) ∧ ZS b e (ze s) ≤ ZT b1 e1 (ze r) ∧ ZS b1 e1 (ze r) ≤ ZT b e (ze s)
theorem meet_t {b e b1 e1 l r s : Nat} (hl : l < 13) (hr : r < 13) (hs : s < 13) (h : RLT b e b1 e1 l) (hbe : b < e) (hbe1 : b1 < e1) (lb : 2 ≤ b) (lb1 : 2 ≤ b1) (ub : e ≤ 241) (ub1 : e1 ≤ 241) (g1 : b < b1 → b + 2 ≤ b1) (g2 : b < e1 → b + 2 ≤ e1) (g3 : e < b1 → e + 2 ≤ b1) (g4 : e < e1 → e + 2 ≤ e1) (f1 : b1 < b → b1 + 2 ≤ b) (f2 : b1 < e → b1 + 2 ≤ e) (f3 : e1 < b → e1 + 2 ≤ b) (f4 : e1 < e → e1 + 2 ≤ e) : meet b e b1 e1 r s ↔ (TT l r).testBit s = true := by
  rw [← agB_t l hl r hr s hs]
  obtain ⟨q1, q2⟩ := inZ_c (zb_5 l hl) h.1 hbe (by omega)
  obtain ⟨q3, q4⟩ := inZ_c (ze_5 l hl) h.2 hbe (by omega)
  have w1 := @cmq_sw b b1
  have w2 := @cmq_sw e b1
  have w3 := @cmq_sw b e1
  have w4 := @cmq_sw e e1
  unfold agB meet
  rw [← fOK_t (zb_5 s hs) (zb_5 r hr) g1 g2 g3 g4 lb1 (by omega) (by omega) ub, ← fOK_t (zb_5 r hr) (zb_5 s hs) f1 f2 f3 f4 lb (by omega) (by omega) ub1, ← fOK_t (ze_5 s hs) (ze_5 r hr) g1 g2 g3 g4 lb1 (by omega) (by omega) ub, ← fOK_t (ze_5 r hr) (ze_5 s hs) f1 f2 f3 f4 lb (by omega) (by omega) ub1, w1, w2, w3, w4, q1, q2, q3, q4]
  simp only [Bool.and_eq_true, and_assoc]
/-! times that are there, and room between them -/
def isT (y : Nat) (B E : Nat → Nat) (t : Nat) : Prop := ∃ z, z < y ∧ (t = B z ∨ t = E z)
def GP (g y : Nat) (B E : Nat → Nat) : Prop := (∀ t, isT y B E t → g ≤ t ∧ t + g ≤ 243) ∧ (∀ s t, isT y B E s → isT y B E t → s < t → s + g ≤ t) ∧ ∀ z, z < y → B z < E z
theorem GP.meet {g y : Nat} {B E : Nat → Nat} (h : GP g y B E) (hg : 2 ≤ g) {z x l r s : Nat} (hz : z < y) (hx : x < y) (hl : l < 13) (hr : r < 13) (hs : s < 13) (hR : RLT (B z) (E z) (B x) (E x) l) : meet (B z) (E z) (B x) (E x) r s ↔ (TT l r).testBit s = true := by
  obtain ⟨h1, h2, h3⟩ := h
  have tz : isT y B E (B z) := ⟨z, hz, Or.inl rfl⟩
  have tz' : isT y B E (E z) := ⟨z, hz, Or.inr rfl⟩
  have tx : isT y B E (B x) := ⟨x, hx, Or.inl rfl⟩
  have tx' : isT y B E (E x) := ⟨x, hx, Or.inr rfl⟩
  have a1 := h1 _ tz
  have a2 := h1 _ tz'
  have a3 := h1 _ tx
  have a4 := h1 _ tx'
  exact meet_t hl hr hs hR (h3 z hz) (h3 x hx) (by omega) (by omega) (by omega) (by omega) (fun q => by have := h2 _ _ tz tx q; omega) (fun q => by have := h2 _ _ tz tx' q; omega) (fun q => by have := h2 _ _ tz' tx q; omega) (fun q => by have := h2 _ _ tz' tx' q; omega) (fun q => by have := h2 _ _ tx tz q; omega) (fun q => by have := h2 _ _ tx tz' q; omega) (fun q => by have := h2 _ _ tx' tz q; omega) (fun q => by have := h2 _ _ tx' tz' q; omega)
/-- from c1 to c2: what y zones of k have in common -/
def IV (y : Nat) (B E : Nat → Nat) (k : Nat → Nat) (c1 c2 : Nat) : Prop := (∀ t, c1 ≤ t ↔ 1 ≤ t ∧ ∀ z, z < y → ZS (B z) (E z) (k z) ≤ t) ∧ ∀ t, t ≤ c2 ↔ t ≤ 242 ∧ ∀ z, z < y → t ≤ ZT (B z) (E z) (k z)
theorem IV.zero {B E k : Nat → Nat} : IV 0 B E k 1 242 := ⟨fun t => ⟨fun h => ⟨h, fun z hz => absurd hz (by omega)⟩, fun h => h.1⟩, fun t => ⟨fun h => ⟨h, fun z hz => absurd hz (by omega)⟩, fun h => h.1⟩⟩
theorem IV.step {y : Nat} {B E k : Nat → Nat} {c1 c2 : Nat} (h : IV y B E k c1 c2) : IV (y + 1) B E k (max c1 (ZS (B y) (E y) (k y))) (min c2 (ZT (B y) (E y) (k y))) := by
  refine ⟨fun t => ?_, fun t => ?_⟩
  · rw [Nat.max_le, h.1]
    constructor
    · rintro ⟨⟨q1, q2⟩, q3⟩
      refine ⟨q1, fun z hz => ?_⟩
      by_cases e : z = y
      · rw [e]; exact q3
      · exact q2 z (by omega)
    · rintro ⟨q1, q2⟩
      exact ⟨⟨q1, fun z hz => q2 z (by omega)⟩, q2 y (by omega)⟩
  · rw [Nat.le_min, h.2]
    constructor
    · rintro ⟨⟨q1, q2⟩, q3⟩
      refine ⟨q1, fun z hz => ?_⟩
      by_cases e : z = y
      · rw [e]; exact q3
      · exact q2 z (by omega)
    · rintro ⟨q1, q2⟩
      exact ⟨⟨q1, fun z hz => q2 z (by omega)⟩, q2 y (by omega)⟩
theorem IV.congr {y : Nat} {B E k k1 : Nat → Nat} {c1 c2 : Nat} (h : IV y B E k c1 c2) (e : ∀ z, z < y → k1 z = k z) : IV y B E k1 c1 c2 := by
  refine ⟨fun t => (h.1 t).trans ⟨fun q => ⟨q.1, fun z hz => by rw [e z hz]; exact q.2 z hz⟩, fun q => ⟨q.1, fun z hz => by rw [← e z hz]; exact q.2 z hz⟩⟩, fun t => (h.2 t).trans ⟨fun q => ⟨q.1, fun z hz => by rw [e z hz]; exact q.2 z hz⟩, fun q => ⟨q.1, fun z hz => by rw [← e z hz]; exact q.2 z hz⟩⟩⟩
theorem zone_in {g y : Nat} {B E : Nat → Nat} (h : GP g y B E) (hg : 2 ≤ g) {x k : Nat} (hx : x < y) (hk : k < 5) : 1 ≤ ZS (B x) (E x) k ∧ ZS (B x) (E x) k ≤ ZT (B x) (E x) k ∧ ZT (B x) (E x) k ≤ 242 := by
  obtain ⟨h1, h2, h3⟩ := h
  have tx : isT y B E (B x) := ⟨x, hx, Or.inl rfl⟩
  have tx' : isT y B E (E x) := ⟨x, hx, Or.inr rfl⟩
  have a3 := h1 _ tx
  have a4 := h1 _ tx'
  have a5 := h2 _ _ tx tx' (h3 x hx)
  rcases five hk with rfl | rfl | rfl | rfl | rfl <;> simp only [ZS, ZT] <;> omega
/-- nothing is empty where each two meet -/
theorem IV.room {g y x : Nat} {B E k : Nat → Nat} {c1 c2 : Nat} (hG : GP g y B E) (hg : 2 ≤ g) (h : IV x B E k c1 c2) (hx : x < y) (hk : k x < 5) (hc : c1 ≤ c2) : max c1 (ZS (B x) (E x) (k x)) ≤ min c2 (ZT (B x) (E x) (k x)) ↔ ∀ z, z < x → ZS (B z) (E z) (k z) ≤ ZT (B x) (E x) (k x) ∧ ZS (B x) (E x) (k x) ≤ ZT (B z) (E z) (k z) := by
  obtain ⟨q1, q2, q3⟩ := zone_in hG hg hx hk
  rw [Nat.max_le, Nat.le_min, Nat.le_min, h.1 (ZT (B x) (E x) (k x)), h.2 (ZS (B x) (E x) (k x))]
  constructor
  · rintro ⟨⟨_, _, p1⟩, ⟨_, p2⟩, _⟩ z hz
    exact ⟨p1 z hz, p2 z hz⟩
  · intro p
    exact ⟨⟨hc, by omega, fun z hz => (p z hz).1⟩, ⟨by omega, fun z hz => (p z hz).2⟩, q2⟩
/-- one time that is there, or one gap -/
theorem IV.gap {g y : Nat} {B E k : Nat → Nat} {c1 c2 : Nat} (hG : GP g y B E) (hg : 2 ≤ g) (h : IV y B E k c1 c2) (hk : ∀ z, z < y → k z < 5) (hc : c1 ≤ c2) : (c1 = c2 ∧ isT y B E c1) ∨ ((c1 = 1 ∨ isT y B E (c1 - 1)) ∧ (c2 = 242 ∨ isT y B E (c2 + 1)) ∧ 1 ≤ c1 ∧ c2 ≤ 242 ∧ ∀ t, isT y B E t → t < c1 ∨ c2 < t) := by
  have hl := (h.1 c1).mp (Nat.le_refl _)
  have hu := (h.2 c2).mp (Nat.le_refl _)
  rcases Classical.em (∃ z, z < y ∧ (k z = 1 ∨ k z = 3)) with ⟨z, hz, e | e⟩ | hn
  · have a := hl.2 z hz
    have b := hu.2 z hz
    rw [e] at a b
    simp only [ZS, ZT] at a b
    exact Or.inl ⟨by omega, z, hz, Or.inl (by omega)⟩
  · have a := hl.2 z hz
    have b := hu.2 z hz
    rw [e] at a b
    simp only [ZS, ZT] at a b
    exact Or.inl ⟨by omega, z, hz, Or.inr (by omega)⟩
  · have hk3 : ∀ z, z < y → k z = 0 ∨ k z = 2 ∨ k z = 4 := fun z hz => by
      rcases five (hk z hz) with e | e | e | e | e
      · exact Or.inl e
      · exact absurd ⟨z, hz, Or.inl e⟩ hn
      · exact Or.inr (Or.inl e)
      · exact absurd ⟨z, hz, Or.inr e⟩ hn
      · exact Or.inr (Or.inr e)
    refine Or.inr ⟨?_, ?_, hl.1, hu.1, ?_⟩
    · by_cases e1 : c1 = 1
      · exact Or.inl e1
      · rcases Classical.em (∃ z, z < y ∧ ZS (B z) (E z) (k z) = c1) with ⟨z, hz, e⟩ | hm
        · refine Or.inr ⟨z, hz, ?_⟩
          rcases hk3 z hz with e2 | e2 | e2 <;> rw [e2] at e <;> simp only [ZS] at e <;> omega
        · have := (h.1 (c1 - 1)).mpr ⟨by have := hl.1; omega, fun z hz => by
            have a := hl.2 z hz
            have : ZS (B z) (E z) (k z) ≠ c1 := fun e => hm ⟨z, hz, e⟩
            omega⟩
          have := hl.1
          omega
    · by_cases e1 : c2 = 242
      · exact Or.inl e1
      · rcases Classical.em (∃ z, z < y ∧ ZT (B z) (E z) (k z) = c2) with ⟨z, hz, e⟩ | hm
        · refine Or.inr ⟨z, hz, ?_⟩
          have a1 := hG.1 _ ⟨z, hz, Or.inl rfl⟩
          have a2 := hG.1 _ ⟨z, hz, Or.inr rfl⟩
          rcases hk3 z hz with e2 | e2 | e2 <;> rw [e2] at e <;> simp only [ZT] at e <;> omega
        · have := (h.2 (c2 + 1)).mpr ⟨by have := hu.1; omega, fun z hz => by
            have a := hu.2 z hz
            have : ZT (B z) (E z) (k z) ≠ c2 := fun e => hm ⟨z, hz, e⟩
            omega⟩
          omega
    · rintro t ⟨z, hz, ht⟩
      have a := hl.2 z hz
      have b := hu.2 z hz
      have a1 := hG.1 _ ⟨z, hz, Or.inl rfl⟩
      have a2 := hG.1 _ ⟨z, hz, Or.inr rfl⟩
      have a3 := hG.2.2 z hz
      rcases hk3 z hz with e2 | e2 | e2 <;> rw [e2] at a b <;> simp only [ZS, ZT] at a b <;> omega
