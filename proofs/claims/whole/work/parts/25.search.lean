/-! The line: search -/
theorem GP.mono {g g1 y : Nat} {B E : Nat → Nat} (h : GP g y B E) (hg : g1 ≤ g) : GP g1 y B E := ⟨fun t ht => by have := h.1 t ht; omega, fun s t hs ht hst => by have := h.2.1 s t hs ht hst; omega, h.2.2⟩
def KEEP (m y p : Nat) (I I1 : SI) (J J1 : SJ) : Prop := frL m I I1 ∧ I1 8 m 7 = I 8 m 7 ∧ (∀ z, z < y → I1 11 m z = I 11 m z ∧ I1 12 m z = I 12 m z) ∧ (∀ q, q < p → I1 13 m q = I 13 m q) ∧ (∀ w, w ≤ y → w < 5 → I1 10 (5 * m + w) = I 10 (5 * m + w)) ∧ ∀ k, k ≠ m → J1 k = J k
theorem KEEP.rf {m y p : Nat} {I : SI} {J : SJ} : KEEP m y p I I J J := ⟨frL.rf, rfl, fun _ _ => ⟨rfl, rfl⟩, fun _ _ => rfl, fun _ _ _ => rfl, fun _ _ => rfl⟩
theorem KEEP.tr {m y p : Nat} {I I1 I2 : SI} {J J1 J2 : SJ} (h : KEEP m y p I I1 J J1) (h1 : KEEP m y p I1 I2 J1 J2) : KEEP m y p I I2 J J2 := by
  obtain ⟨a1, a2, a3, a4, a5, a6⟩ := h
  obtain ⟨b1, b2, b3, b4, b5, b6⟩ := h1
  exact ⟨a1.tr b1, b2.trans a2, fun z hz => ⟨(b3 z hz).1.trans (a3 z hz).1, (b3 z hz).2.trans (a3 z hz).2⟩, fun q hq => (b4 q hq).trans (a4 q hq), fun w hw h5 => (b5 w hw h5).trans (a5 w hw h5), fun k hk => (b6 k hk).trans (a6 k hk)⟩
theorem KEEP.less {m y y1 p p1 : Nat} {I I1 : SI} {J J1 : SJ} (h : KEEP m y1 p1 I I1 J J1) (hy : y ≤ y1) (hp : p ≤ p1) : KEEP m y p I I1 J J1 := by
  obtain ⟨a1, a2, a3, a4, a5, a6⟩ := h
  exact ⟨a1, a2, fun z hz => a3 z (by omega), fun q hq => a4 q (by omega), fun w hw h5 => a5 w (by omega) h5, a6⟩
theorem ALG.frL {m : Nat} {I I1 : SI} (h : ALG I) (hf : frL m I I1) : ALG I1 := by
  unfold ALG at h ⊢
  rw [hf 1 0 (by omega), hf 2 0 (by omega)]
  exact h
/-- before a search -/
def PRE (I : SI) (m ev : Nat) (N S : NF) (B E : Nat → Nat) (l : HS) (y p : Nat) : Prop := ALG I ∧ I 16 (2 * m + 1) 2 = nI ev ∧ LB I m y B E ∧ GP (3 ^ (5 - y)) y B E ∧ ONL y B E l ∧ (∀ q, q < p → I 13 m q = nI (l q)) ∧ GOOD N p l ∧ (y < ev → ROW I (5 * m + y) ev S ∧ SG N ev l p S y)
theorem PRE.keep {I I1 : SI} {J J1 : SJ} {m ev : Nat} {N S : NF} {B E : Nat → Nat} {l : HS} {y p : Nat} (h : PRE I m ev N S B E l y p) (hk : KEEP m y p I I1 J J1) (h5 : ev ≤ 5) : PRE I1 m ev N S B E l y p := by
  obtain ⟨g1, g2, g3, g4, g5, g6, g7, g8⟩ := h
  obtain ⟨a1, a2, a3, a4, a5, a6⟩ := hk
  refine ⟨g1.frL a1, by rw [a1 16 _ (by omega)]; exact g2, fun z hz => by rw [(a3 z hz).1, (a3 z hz).2]; exact g3 z hz, g4, g5, fun q hq => by rw [a4 q hq]; exact g6 q hq, g7, fun hy => ⟨fun a b hab hb => ?_, (g8 hy).2⟩⟩
  rw [a5 y (Nat.le_refl _) (by omega)]
  exact (g8 hy).1 a b hab hb
theorem prb_s {x y : Nat} : PRb (x + 1) y = PRb x y + 1 := by unfold PRb; omega
theorem prb_yy : ∀ y, y < 6 → PRb y y = PRb 0 (y + 1) := by decide +kernel
theorem pow3 : ∀ y, y < 5 → 3 ^ (5 - y) = 3 * 3 ^ (4 - y) ∧ 1 ≤ 3 ^ (4 - y) ∧ 3 ^ (5 - y) ≤ 243 ∧ 3 ≤ 3 ^ (5 - y) ∧ 3 ^ (5 - (y + 1)) = 3 ^ (4 - y) := by decide +kernel
theorem mxI {a b : Nat} (ha : a < 2 ^ 31) (hb : b < 2 ^ 31) : (if nI a < nI b then nI b else nI a) = nI (max a b) := by
  by_cases h : a < b
  · rw [if_pos (nI_lt h hb), Nat.max_eq_right (by omega)]
  · rw [if_neg (by rw [nI_ltI ha hb]; exact h), Nat.max_eq_left (by omega)]
theorem mnI {a b : Nat} (ha : a < 2 ^ 31) (hb : b < 2 ^ 31) : (if nI b < nI a then nI b else nI a) = nI (min a b) := by
  by_cases h : b < a
  · rw [if_pos (nI_lt h ha), Nat.min_eq_right (by omega)]
  · rw [if_neg (by rw [nI_ltI hb ha]; exact h), Nat.min_eq_left (by omega)]
theorem take_all {α : Type} {A : List α} {w : Nat} (h : A.length ≤ w) : A.take w = A := List.take_of_length_le h
theorem take_pre {α : Type} {A B : List α} {w : Nat} (h : w ≤ A.length) : (A ++ B).take w = A.take w := List.take_append_of_le_length h
def SQ (m ev w y p : Nat) (I : SI) (J : SJ) (R : List HS) : Option AV → ST → Prop := fun r σ => ∃ I1 J1, r = some (vi (bi (decide (w ≤ R.length)))) ∧ σ = S0 I1 J1 ∧ LST I1 J1 m ev (R.take w) ∧ KEEP m y p I I1 J J1
/-- what tells whether r goes on at the pair of x and y -/
theorem room_t {N S : NF} {ev y x r p : Nat} {B E : Nat → Nat} {l : HS} {b1 b2 e1 e2 : Nat} (h5 : ev ≤ 5) (hy : y < ev) (hx : x < y) (hp : p = PRb x y) (hG : GP (3 ^ (5 - y)) y B E) (hO : ONL y B E l) (hg : GOOD N p l) (hr : r < 13) (hb : IV x B E (fun z => zb (l (PRb z y))) b1 b2) (he : IV x B E (fun z => ze (l (PRb z y))) e1 e2) (hbb : b1 ≤ b2) (hee : e1 ≤ e2) : (max b1 (ZS (B x) (E x) (zb r)) ≤ min b2 (ZT (B x) (E x) (zb r)) ∧ max e1 (ZS (B x) (E x) (ze r)) ≤ min e2 (ZT (B x) (E x) (ze r))) ↔ allN x (fun z => (TT (l (PRb z x)) r).testBit (l (PRb z y))) = true := by
  obtain ⟨w1, w2, w3, w4, w5⟩ := pow3 y (by omega)
  have ek : ∀ z, z < x → put1 l p r (PRb z y) = l (PRb z y) := fun z hz => put1_ne (by have := prb_lt2 (x := x) (y := y) hz; omega)
  have ex : put1 l p r (PRb x y) = r := by rw [← hp]; exact put1_at
  have hb1 : IV x B E (fun z => zb (put1 l p r (PRb z y))) b1 b2 := hb.congr (fun z hz => by rw [ek z hz])
  have he1 : IV x B E (fun z => ze (put1 l p r (PRb z y))) e1 e2 := he.congr (fun z hz => by rw [ek z hz])
  have rb := hb1.room hG (by omega) hx (by rw [ex]; exact zb_5 r hr) hbb
  have re := he1.room hG (by omega) hx (by rw [ex]; exact ze_5 r hr) hee
  simp only [ex] at rb re
  rw [rb, re, allN_t]
  have hl1 : ∀ z, z < x → l (PRb z x) < 13 := fun z hz => (hg _ (by have := prb_lt1 y (by omega) x hx z hz; omega)).1
  have hl2 : ∀ z, z < x → l (PRb z y) < 13 := fun z hz => (hg _ (by have := prb_lt2 (x := x) (y := y) hz; omega)).1
  have hm : ∀ z, z < x → (meet (B z) (E z) (B x) (E x) r (l (PRb z y)) ↔ (TT (l (PRb z x)) r).testBit (l (PRb z y)) = true) := fun z hz => hG.meet (by omega) (by omega) hx (hl1 z hz) hr (hl2 z hz) (hO z x hz (by omega))
  constructor
  · rintro ⟨q1, q2⟩ z hz
    have a1 := q1 z hz
    have a2 := q2 z hz
    rw [ek z hz] at a1 a2
    exact (hm z hz).mp ⟨a1.1, a1.2, a2.1, a2.2⟩
  · intro q
    refine ⟨fun z hz => ?_, fun z hz => ?_⟩
    · rw [ek z hz]
      have := (hm z hz).mpr (q z hz)
      exact ⟨this.1, this.2.1⟩
    · rw [ek z hz]
      have := (hm z hz).mpr (q z hz)
      exact ⟨this.2.2.1, this.2.2.2⟩
