/-! CLOSING, by itself -/
def PRb (a b : Nat) : Nat := b * (b - 1) / 2 + a
/-- the place of two events -/
def prU (a b : Nat) : Nat := if a < b then PRb a b else PRb b a
theorem prU_comm (a b : Nat) : prU a b = prU b a := by
  unfold prU
  by_cases h : a < b
  · rw [if_pos h, if_neg (by omega)]
  · by_cases h1 : b < a
    · rw [if_neg h, if_pos h1]
    · have : a = b := by omega
      rw [this]
theorem PRb_lt : ∀ b, b < 5 → ∀ a, a < b → PRb a b < 10 := by decide +kernel
theorem PRb_in0 : ∀ b, b < 5 → ∀ a, a < b → ∀ e, e < 5 → (∀ c, c < e → PRb a b = PRb c e → a = c ∧ b = e) := by
  intro b hb a ha e he c hc q
  unfold PRb at q
  have hb1 : b = 0 ∨ b = 1 ∨ b = 2 ∨ b = 3 ∨ b = 4 := by omega
  have he1 : e = 0 ∨ e = 1 ∨ e = 2 ∨ e = 3 ∨ e = 4 := by omega
  rcases hb1 with rfl | rfl | rfl | rfl | rfl <;> rcases he1 with rfl | rfl | rfl | rfl | rfl <;> omega
theorem PRb_inj (b : Nat) (hb : b < 5) (a : Nat) (ha : a < b) (e : Nat) (he : e < 5) (c : Nat) (hc : c < e) (q : PRb a b = PRb c e) : a = c ∧ b = e := PRb_in0 b hb a ha e he c hc q
theorem PRb_tab (a : Nat) (_ : a < 5) (b : Nat) (hb : b < 5) (h : a < b) : PRb a b < 10 ∧ ∀ c, c < 5 → ∀ e, e < 5 → c < e → PRb a b = PRb c e → a = c ∧ b = e :=
  ⟨PRb_lt b hb a h, fun c _ e he h1 q => PRb_inj b hb a h e he c h1 q⟩
theorem prU_lt {a b : Nat} (ha : a < 5) (hb : b < 5) (h : a ≠ b) : prU a b < 10 := by
  unfold prU
  split
  · exact (PRb_tab a ha b hb (by omega)).1
  · exact (PRb_tab b hb a ha (by omega)).1
theorem prU_inj {a b c e : Nat} (ha : a < 5) (hb : b < 5) (hc : c < 5) (he : e < 5) (h : a ≠ b) (h1 : c ≠ e) (q : prU a b = prU c e) : (a = c ∧ b = e) ∨ (a = e ∧ b = c) := by
  unfold prU at q
  by_cases e1 : a < b <;> by_cases e2 : c < e
  · rw [if_pos e1, if_pos e2] at q
    exact Or.inl ((PRb_tab a ha b hb e1).2 c hc e he e2 q)
  · rw [if_pos e1, if_neg e2] at q
    have := (PRb_tab a ha b hb e1).2 e he c hc (by omega) q
    exact Or.inr this
  · rw [if_neg e1, if_pos e2] at q
    have := (PRb_tab b hb a ha (by omega)).2 c hc e he e2 q
    exact Or.inr ⟨this.2, this.1⟩
  · rw [if_neg e1, if_neg e2] at q
    have := (PRb_tab b hb a ha (by omega)).2 e he c hc (by omega) q
    exact Or.inl ⟨this.2, this.1⟩
theorem cmps_bit {a b c : Nat} : (cmps a b).testBit c = true ↔ ∃ r, r < 13 ∧ ∃ s, s < 13 ∧ a.testBit r = true ∧ b.testBit s = true ∧ (TT r s).testBit c = true := by
  unfold cmps
  rw [orN_bit]
  constructor
  · rintro ⟨r, h1, h2⟩
    by_cases h : a.testBit r = true
    · rw [if_pos h, rowF_bit] at h2
      obtain ⟨s, e1, e2, e3⟩ := h2
      refine ⟨r, h1, s, e1, h, e2, ?_⟩
      rw [T2, if_neg (by omega)] at e3
      exact e3
    · rw [if_neg h] at h2; simp at h2
  · rintro ⟨r, h1, s, e1, h, e2, e3⟩
    refine ⟨r, h1, ?_⟩
    rw [if_pos h, rowF_bit]
    exact ⟨s, e1, e2, by rw [T2, if_neg (by omega)]; exact e3⟩
theorem cmps_mono {a b a1 b1 : Nat} (h : Sub a a1) (h1 : Sub b b1) : Sub (cmps a b) (cmps a1 b1) := fun c hc => by
  rw [cmps_bit] at hc ⊢
  obtain ⟨r, q1, s, q2, q3, q4, q5⟩ := hc
  exact ⟨r, q1, s, q2, h _ q3, h1 _ q4, q5⟩
theorem tt_turn : ∀ r, r < 13 → ∀ s, s < 13 → ∀ c, c < 13 → (TT r s).testBit c = (TT (12 - s) (12 - r)).testBit (12 - c) := by decide +kernel
theorem tt_peirce : ∀ r, r < 13 → ∀ s, s < 13 → ∀ c, c < 13 → (TT r s).testBit c = (TT (12 - r) c).testBit s := by decide +kernel
theorem tt_any : ∀ r, r < 13 → ∀ c, c < 13 → (∃ s, s < 13 ∧ (TT r s).testBit c = true) := by decide +kernel
theorem tt_any2 : ∀ r, r < 13 → ∀ c, c < 13 → (∃ s, s < 13 ∧ (TT s r).testBit c = true) := by decide +kernel
theorem tt_id : ∀ s, s < 13 → TT 6 s = 2 ^ s ∧ TT s 6 = 2 ^ s := by decide +kernel
theorem tt_self : ∀ r, r < 13 → (TT r (12 - r)).testBit 6 = true := by decide +kernel
theorem tt_b {r s c : Nat} (h : (TT r s).testBit c = true) : c < 13 := bit13 TT_lt h
theorem trn_cmps {a b : Nat} : trn (cmps a b) = cmps (trn b) (trn a) := Nat.eq_of_testBit_eq fun c => by
  rw [Bool.eq_iff_iff, trn_bit, cmps_bit, cmps_bit]
  constructor
  · rintro ⟨h, r, q1, s, q2, q3, q4, q5⟩
    refine ⟨12 - s, by omega, 12 - r, by omega, ?_, ?_, ?_⟩
    · rw [trn_bit]; exact ⟨by omega, by rw [show 12 - (12 - s) = s by omega]; exact q4⟩
    · rw [trn_bit]; exact ⟨by omega, by rw [show 12 - (12 - r) = r by omega]; exact q3⟩
    · rw [tt_turn r q1 s q2 (12 - c) (by omega), show 12 - (12 - c) = c by omega] at q5; exact q5
  · rintro ⟨r, q1, s, q2, q3, q4, q5⟩
    rw [trn_bit] at q3 q4
    have hc := tt_b q5
    refine ⟨hc, 12 - s, by omega, 12 - r, by omega, q4.2, q3.2, ?_⟩
    rw [tt_turn r q1 s q2 c hc] at q5
    exact q5
theorem cmps_all {a : Nat} (ha : a < 8192) (h : a ≠ 0) : cmps a 8191 = 8191 := by
  obtain ⟨r, h1, h2⟩ := nz_bit ha h
  refine Sub.antisymm (Sub.all cmps_lt) (fun c hc => ?_)
  have hc13 := bit13 (by decide) hc
  obtain ⟨s, e1, e2⟩ := tt_any r h1 c hc13
  rw [cmps_bit]
  exact ⟨r, h1, s, e1, h2, bit_all e1, e2⟩
theorem all_cmps {a : Nat} (ha : a < 8192) (h : a ≠ 0) : cmps 8191 a = 8191 := by
  obtain ⟨r, h1, h2⟩ := nz_bit ha h
  refine Sub.antisymm (Sub.all cmps_lt) (fun c hc => ?_)
  have hc13 := bit13 (by decide) hc
  obtain ⟨s, e1, e2⟩ := tt_any2 r h1 c hc13
  rw [cmps_bit]
  exact ⟨s, e1, r, h1, bit_all e1, h2, e2⟩
theorem bit64 {c : Nat} : (64 : Nat).testBit c = true ↔ c = 6 := by
  rw [show (64 : Nat) = 2 ^ 6 from rfl, Nat.testBit_two_pow]
  simp
  exact ⟨fun h => h.symm, fun h => h.symm⟩
theorem one_cmps {a : Nat} (ha : a < 8192) : cmps 64 a = a := Nat.eq_of_testBit_eq fun c => by
  rw [Bool.eq_iff_iff, cmps_bit]
  constructor
  · rintro ⟨r, q1, s, q2, q3, q4, q5⟩
    rw [bit64] at q3
    subst q3
    rw [(tt_id s q2).1, Nat.testBit_two_pow] at q5
    have : s = c := by simpa using q5
    rw [← this]; exact q4
  · intro h
    have hc := bit13 ha h
    exact ⟨6, by decide, c, hc, bit64.mpr rfl, h, by rw [(tt_id c hc).1, Nat.testBit_two_pow]; simp⟩
theorem cmps_one {a : Nat} (ha : a < 8192) : cmps a 64 = a := Nat.eq_of_testBit_eq fun c => by
  rw [Bool.eq_iff_iff, cmps_bit]
  constructor
  · rintro ⟨r, q1, s, q2, q3, q4, q5⟩
    rw [bit64] at q4
    subst q4
    rw [(tt_id r q1).2, Nat.testBit_two_pow] at q5
    have : r = c := by simpa using q5
    rw [← this]; exact q3
  · intro h
    have hc := bit13 ha h
    exact ⟨c, hc, 6, by decide, h, bit64.mpr rfl, by rw [(tt_id c hc).2, Nat.testBit_two_pow]; simp⟩
theorem self_cmps {a : Nat} (ha : a < 8192) (h : a ≠ 0) : Sub 64 (cmps a (trn a)) := fun c hc => by
  rw [bit64] at hc
  subst hc
  obtain ⟨r, h1, h2⟩ := nz_bit ha h
  rw [cmps_bit]
  exact ⟨r, h1, 12 - r, by omega, h2, by rw [trn_bit]; exact ⟨by omega, by rw [show 12 - (12 - r) = r by omega]; exact h2⟩, tt_self r h1⟩
abbrev NF : Type := Nat → Nat → Nat
def SYM (ev : Nat) (N : NF) : Prop := (∀ a b, a < ev → b < ev → N b a = trn (N a b) ∧ N a b < 8192) ∧ ∀ a, a < ev → N a a = 64
def NZ (ev : Nat) (N : NF) : Prop := ∀ a b, a < ev → b < ev → N a b ≠ 0
def LE (ev : Nat) (M N : NF) : Prop := ∀ a b, a < ev → b < ev → Sub (M a b) (N a b)
def PC (ev : Nat) (M : NF) : Prop := ∀ a b c, a < ev → b < ev → c < ev → Sub (M a c) (cmps (M a b) (M b c))
def CT (N : NF) (a b c : Nat) : Prop := Sub (N a c) (cmps (N a b) (N b c))
theorem LE.rf {ev : Nat} {N : NF} : LE ev N N := fun _ _ _ _ => Sub.rf
theorem LE.tr {ev : Nat} {M N P : NF} (h : LE ev M N) (h1 : LE ev N P) : LE ev M P := fun a b ha hb => (h a b ha hb).tr (h1 a b ha hb)
theorem nz_not {ev : Nat} {N : NF} : NZ ev N ↔ ¬ ZERO ev N := by
  constructor
  · rintro h ⟨a, b, ha, hb, h0⟩; exact h a b ha hb h0
  · intro h a b ha hb h0; exact h ⟨a, b, ha, hb, h0⟩
theorem CT.sym {ev : Nat} {N : NF} (hs : SYM ev N) {a b c : Nat} (ha : a < ev) (hb : b < ev) (hc : c < ev) (h : CT N a b c) : CT N c b a := by
  unfold CT at h ⊢
  rw [(hs.1 a c ha hc).1, (hs.1 b c hb hc).1, (hs.1 a b ha hb).1, ← trn_cmps]
  intro x hx
  rw [trn_bit] at hx ⊢
  exact ⟨hx.1, h _ hx.2⟩
/-- what is left of x to z by y -/
def has (N : NF) (x y z : Nat) : Nat := N x z &&& cmps (N x y) (N y z)
def stp (N : NF) (x y z : Nat) : NF := putN N x z (has N x y z)
theorem has_lt {ev : Nat} {N : NF} (hs : SYM ev N) {x y z : Nat} (hx : x < ev) (hz : z < ev) : has N x y z < 8192 := and_lt13 (hs.1 x z hx hz).2
theorem stp_at {N : NF} {x y z a b : Nat} (h : ¬ (a = x ∧ b = z)) (h1 : ¬ (a = z ∧ b = x)) : stp N x y z a b = N a b := by
  unfold stp putN
  rw [if_neg h1, if_neg h]
theorem stp_xz {N : NF} {x y z : Nat} (h : x ≠ z) : stp N x y z x z = has N x y z := by
  unfold stp putN
  rw [if_neg (fun e => h e.1), if_pos ⟨rfl, rfl⟩]
theorem stp_zx {N : NF} {x y z : Nat} : stp N x y z z x = trn (has N x y z) := by
  unfold stp putN
  rw [if_pos ⟨rfl, rfl⟩]
theorem stp_sym {ev : Nat} {N : NF} (hs : SYM ev N) {x y z : Nat} (hx : x < ev) (hz : z < ev) (hxz : x ≠ z) : SYM ev (stp N x y z) := by
  have hl := has_lt hs (y := y) hx hz
  refine ⟨fun a b ha hb => ?_, fun a ha => ?_⟩
  · by_cases e1 : a = x ∧ b = z
    · obtain ⟨rfl, rfl⟩ := e1
      rw [stp_zx, stp_xz hxz]
      exact ⟨rfl, hl⟩
    · by_cases e2 : a = z ∧ b = x
      · obtain ⟨rfl, rfl⟩ := e2
        rw [stp_zx, stp_xz hxz, trn_trn hl]
        exact ⟨rfl, trn_lt⟩
      · rw [stp_at e1 e2, stp_at (fun e => e2 ⟨e.2, e.1⟩) (fun e => e1 ⟨e.2, e.1⟩)]
        exact hs.1 a b ha hb
  · rw [stp_at (fun e => hxz (e.1.symm.trans e.2)) (fun e => hxz (e.2.symm.trans e.1))]
    exact hs.2 a ha
theorem stp_le {ev : Nat} {N : NF} (hs : SYM ev N) {x y z : Nat} (hx : x < ev) (hz : z < ev) (hxz : x ≠ z) : LE ev (stp N x y z) N := fun a b ha hb => by
  by_cases e1 : a = x ∧ b = z
  · obtain ⟨rfl, rfl⟩ := e1
    rw [stp_xz hxz]
    exact Sub.and_l
  · by_cases e2 : a = z ∧ b = x
    · obtain ⟨rfl, rfl⟩ := e2
      rw [stp_zx, (hs.1 b a hx hz).1]
      intro c hc
      rw [trn_bit] at hc ⊢
      exact ⟨hc.1, Sub.and_l _ hc.2⟩
    · rw [stp_at e1 e2]
      exact Sub.rf
theorem stp_snd {ev : Nat} {N M : NF} (hs : SYM ev N) {x y z : Nat} (hx : x < ev) (hy : y < ev) (hz : z < ev) (hxz : x ≠ z) (hM : PC ev M) (hle : LE ev M N) : LE ev M (stp N x y z) := fun a b ha hb => by
  by_cases e1 : a = x ∧ b = z
  · obtain ⟨rfl, rfl⟩ := e1
    rw [stp_xz hxz]
    exact Sub.and (hle _ _ ha hb) ((hM a y b ha hy hb).tr (cmps_mono (hle _ _ ha hy) (hle _ _ hy hb)))
  · by_cases e2 : a = z ∧ b = x
    · obtain ⟨rfl, rfl⟩ := e2
      rw [stp_zx, has, trn_and, trn_cmps, ← (hs.1 b a hx hz).1, ← (hs.1 y a hy hz).1, ← (hs.1 b y hx hy).1]
      exact Sub.and (hle _ _ ha hb) ((hM a y b ha hy hb).tr (cmps_mono (hle _ _ ha hy) (hle _ _ hy hb)))
    · rw [stp_at e1 e2]
      exact hle a b ha hb
theorem stp_ct {N : NF} {x y z : Nat} (hxz : x ≠ z) (hxy : x ≠ y) (hyz : y ≠ z) : CT (stp N x y z) x y z := by
  unfold CT
  rw [stp_xz hxz, stp_at (fun e => hyz e.2) (fun e => hxz e.1), stp_at (fun e => hxy e.1.symm) (fun e => hyz e.1)]
  exact Sub.and_r
theorem has_id {ev : Nat} {N : NF} (hs : SYM ev N) (hn : NZ ev N) {x y z : Nat} (hx : x < ev) (hy : y < ev) (hz : z < ev) (h : N y z = 8191 ∨ N x y = 8191) : has N x y z = N x z := by
  unfold has
  rcases h with h | h
  · rw [h, cmps_all (hs.1 x y hx hy).2 (hn x y hx hy), and_all (hs.1 x z hx hz).2]
  · rw [h, all_cmps (hs.1 y z hy hz).2 (hn y z hy hz), and_all (hs.1 x z hx hz).2]
theorem stp_id {ev : Nat} {N : NF} (hs : SYM ev N) {x y z : Nat} (hx : x < ev) (hz : z < ev) (h : has N x y z = N x z) (a b : Nat) : stp N x y z a b = N a b := by
  unfold stp putN
  rw [h]
  split
  · rename_i e
    rw [e.1, e.2, (hs.1 x z hx hz).1]
  · split
    · rename_i e
      rw [e.1, e.2]
    · rfl
theorem stp_zero {ev : Nat} {N : NF} (hs : SYM ev N) (hn : NZ ev N) {x y z : Nat} (hx : x < ev) (hz : z < ev) (hxz : x ≠ z) : has N x y z = 0 ↔ ZERO ev (stp N x y z) := by
  constructor
  · intro h
    exact ⟨x, z, hx, hz, by rw [stp_xz hxz, h]⟩
  · rintro ⟨a, b, ha, hb, h⟩
    by_cases e1 : a = x ∧ b = z
    · obtain ⟨rfl, rfl⟩ := e1
      rw [stp_xz hxz] at h
      exact h
    · by_cases e2 : a = z ∧ b = x
      · obtain ⟨rfl, rfl⟩ := e2
        rw [stp_zx] at h
        exact (trn_eq0 (has_lt hs hx hz)).mp h
      · rw [stp_at e1 e2] at h
        exact absurd h (hn a b ha hb)
/-! how many relations are left -/
def sumN : Nat → (Nat → Nat) → Nat
  | 0, _ => 0
  | n + 1, f => sumN n f + f n
theorem sumN_le {f g : Nat → Nat} : ∀ {n : Nat}, (∀ i, i < n → f i ≤ g i) → sumN n f ≤ sumN n g
  | 0, _ => Nat.le_refl _
  | n + 1, h => Nat.add_le_add (sumN_le (fun i hi => h i (by omega))) (h n (by omega))
theorem sumN_lt {f g : Nat → Nat} : ∀ {n : Nat}, (∀ i, i < n → f i ≤ g i) → (∃ i, i < n ∧ f i < g i) → sumN n f < sumN n g
  | 0, _, ⟨i, h, _⟩ => absurd h (by omega)
  | n + 1, h, ⟨i, h1, h2⟩ => by
    by_cases hi : i = n
    · subst hi
      exact Nat.add_lt_add_of_le_of_lt (sumN_le (fun i hi => h i (by omega))) h2
    · exact Nat.add_lt_add_of_lt_of_le (sumN_lt (fun i hi => h i (by omega)) ⟨i, by omega, h2⟩) (h n (by omega))
theorem sumN_bound {f : Nat → Nat} {k : Nat} : ∀ {n : Nat}, (∀ i, i < n → f i ≤ k) → sumN n f ≤ n * k
  | 0, _ => by simp [sumN]
  | n + 1, h => by
    have h1 := sumN_bound (f := f) (k := k) (n := n) (fun i hi => h i (by omega))
    have h2 := h n (by omega)
    rw [Nat.add_mul, Nat.one_mul]
    exact Nat.add_le_add h1 h2
def b2n (b : Bool) : Nat := match b with
  | true => 1
  | false => 0
def pop (a : Nat) : Nat := sumN 13 (fun c => b2n (a.testBit c))
theorem pop_le {a b : Nat} (h : Sub a b) : pop a ≤ pop b := sumN_le (fun c _ => by
  cases ha : a.testBit c with
  | false => exact Nat.zero_le _
  | true => rw [h c ha]; exact Nat.le_refl _)
theorem pop_lt {a b : Nat} (h : Sub a b) (hb : b < 8192) (hne : a ≠ b) : pop a < pop b := by
  refine sumN_lt (fun c _ => by
    cases ha : a.testBit c with
    | false => exact Nat.zero_le _
    | true => rw [h c ha]; exact Nat.le_refl _) ?_
  rcases Classical.em (∃ c, b.testBit c = true ∧ a.testBit c = false) with ⟨c, h1, h2⟩ | hn
  · exact ⟨c, bit13 hb h1, by rw [h1, h2]; decide⟩
  · exact absurd (Sub.antisymm h (fun c hc => by
      cases ha : a.testBit c with
      | true => rfl
      | false => exact absurd ⟨c, hc, ha⟩ hn)) hne
theorem pop_13 (a : Nat) : pop a ≤ 13 := by
  have := sumN_bound (f := fun c => b2n (a.testBit c)) (k := 1) (n := 13) (fun c _ => by cases a.testBit c <;> decide)
  exact this
def phi (ev : Nat) (N : NF) : Nat := sumN ev (fun hi => sumN hi (fun lo => pop (N lo hi)))
theorem phi_le {ev : Nat} {M N : NF} (h : LE ev M N) : phi ev M ≤ phi ev N := sumN_le (fun hi h1 => sumN_le (fun lo h2 => pop_le (h lo hi (by omega) h1)))
theorem phi_lt {ev : Nat} {M N : NF} (h : LE ev M N) (hN : ∀ a b, a < ev → b < ev → N a b < 8192) {a b : Nat} (hab : a < b) (hb : b < ev) (hne : M a b ≠ N a b) : phi ev M < phi ev N :=
  sumN_lt (fun hi h1 => sumN_le (fun lo h2 => pop_le (h lo hi (by omega) h1))) ⟨b, hb, sumN_lt (fun lo h2 => pop_le (h lo b (by omega) hb)) ⟨a, hab, pop_lt (h a b (by omega) hb) (hN a b (by omega) hb) hne⟩⟩
theorem phi_130 {ev : Nat} {N : NF} (hev : ev ≤ 5) : phi ev N ≤ 130 := by
  have h1 : ∀ hi, sumN hi (fun lo => pop (N lo hi)) ≤ hi * 13 := fun hi => sumN_bound (fun lo _ => pop_13 _)
  have h2 : phi ev N ≤ sumN ev (fun hi => hi * 13) := sumN_le (fun hi _ => h1 hi)
  have h3 : ∀ e, e ≤ 5 → sumN e (fun hi => hi * 13) ≤ 130 := by decide +kernel
  exact Nat.le_trans h2 (h3 ev hev)
