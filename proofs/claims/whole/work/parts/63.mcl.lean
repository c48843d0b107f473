/-! The model: closing, by itself -/
def up1 (N : NF) (x y v : Nat) : NF := fun a c => if a = x ∧ c = y then v else N a c
theorem up1_at {N : NF} {x y v : Nat} : up1 N x y v x y = v := if_pos ⟨rfl, rfl⟩
theorem up1_ne {N : NF} {x y v a c : Nat} (h : ¬ (a = x ∧ c = y)) : up1 N x y v a c = N a c := if_neg h
theorem up1_id {N : NF} {x y v : Nat} (h : v = N x y) : up1 N x y v = N := by
  funext a c
  unfold up1
  split
  · rename_i q
    rw [q.1, q.2, h]
  · rfl
def phi2 (ev : Nat) (N : NF) : Nat := sumN ev (fun x => sumN ev (fun y => pop (N x y)))
theorem phi2_le {ev : Nat} {N N1 : NF} (h : ∀ x y, x < ev → y < ev → pop (N x y) ≤ pop (N1 x y)) : phi2 ev N ≤ phi2 ev N1 := sumN_le (fun x hx => sumN_le (fun y hy => h x y hx hy))
theorem phi2_lt {ev : Nat} {N N1 : NF} (h : ∀ x y, x < ev → y < ev → pop (N x y) ≤ pop (N1 x y)) {x y : Nat} (hx : x < ev) (hy : y < ev) (h1 : pop (N x y) < pop (N1 x y)) : phi2 ev N < phi2 ev N1 := sumN_lt (fun x hx => sumN_le (fun y hy => h x y hx hy)) ⟨x, hx, sumN_lt (fun y hy => h x y hx hy) ⟨y, hy, h1⟩⟩
def CLI (ev : Nat) (N0 Ns N : NF) (k : Nat) (mo no : Bool) : Prop := (∀ x y, x < ev → y < ev → N x y < 8192) ∧ LE ev N N0 ∧ (∀ M, PC ev M → LE ev M N0 → LE ev M N) ∧ (no = false → NZ ev N) ∧ (no = true → ZERO ev N) ∧ phi2 ev N ≤ phi2 ev Ns ∧ (mo = true → phi2 ev N < phi2 ev Ns) ∧ (mo = false → ∀ j, j < k → CT N (j / (ev * ev)) (j / ev % ev) (j % ev))
theorem k3_t : ∀ ev, ev < 6 → ∀ k, k < ev * ev * ev → k / (ev * ev) < ev ∧ k / ev % ev < ev ∧ k % ev < ev := by decide +kernel
theorem k3_s : ∀ ev, ev < 6 → ∀ x, x < ev → ∀ b, b < ev → ∀ y, y < ev → (ev * ev * x + ev * b + y) < ev * ev * ev ∧ (ev * ev * x + ev * b + y) / (ev * ev) = x ∧ (ev * ev * x + ev * b + y) / ev % ev = b ∧ (ev * ev * x + ev * b + y) % ev = y := by decide +kernel
theorem k2_t : ∀ ev, ev < 6 → ∀ k, k < ev * ev → k / ev < ev ∧ k % ev < ev ∧ ev * (k / ev) + k % ev = k ∧ k < 25 := by decide +kernel
theorem k2_s : ∀ ev, ev < 6 → ∀ x, x < ev → ∀ y, y < ev → ev * x + y < ev * ev ∧ (ev * x + y) / ev = x ∧ (ev * x + y) % ev = y ∧ ev * x + y < 25 := by decide +kernel
theorem CLI.step {ev : Nat} {N0 Ns N : NF} {k : Nat} {mo no : Bool} (h : CLI ev N0 Ns N k mo no) (h6 : ev < 6) (hk : k < ev * ev * ev) {x b y v : Nat} (hx : x = k / (ev * ev)) (hb : b = k / ev % ev) (hy : y = k % ev) (hv : v = N x y &&& cmps (N x b) (N b y)) : CLI ev N0 Ns (up1 N x y v) (k + 1) (mo || decide (v ≠ N x y)) (no || decide (v = 0)) := by
  obtain ⟨h1, h2, h3, h4, h5, h7, h8, h9⟩ := h
  obtain ⟨t1, t2, t3⟩ := k3_t ev h6 k hk
  rw [← hx] at t1
  rw [← hb] at t2
  rw [← hy] at t3
  have hsub : Sub v (N x y) := by rw [hv]; exact Sub.and_l
  have hle : LE ev (up1 N x y v) N := fun a c ha hc => by
    unfold up1
    split
    · rename_i q
      rw [q.1, q.2]
      exact hsub
    · exact Sub.rf
  have hpop : ∀ a c, a < ev → c < ev → pop (up1 N x y v a c) ≤ pop (N a c) := fun a c ha hc => pop_le (hle a c ha hc)
  refine ⟨fun a c ha hc => ?_, hle.tr h2, fun M hM hMN a c ha hc => ?_, fun q => ?_, fun q => ?_, Nat.le_trans (phi2_le hpop) h7, fun q => ?_, fun q j hj => ?_⟩
  · unfold up1
    split
    · rw [hv]
      exact and_lt13 (h1 x y t1 t3)
    · exact h1 a c ha hc
  · unfold up1
    split
    · rename_i q
      rw [q.1, q.2, hv]
      have hm := h3 M hM hMN
      exact Sub.and (hm x y t1 t3) ((hM x b y t1 t2 t3).tr (cmps_mono (hm x b t1 t2) (hm b y t2 t3)))
    · exact h3 M hM hMN a c ha hc
  · rw [Bool.or_eq_false_iff, decide_eq_false_iff_not] at q
    intro a c ha hc
    unfold up1
    split
    · exact q.2
    · exact h4 q.1 a c ha hc
  · rw [Bool.or_eq_true, decide_eq_true_eq] at q
    rcases q with q | q
    · obtain ⟨a, c, ha, hc, e⟩ := h5 q
      refine ⟨a, c, ha, hc, ?_⟩
      unfold up1
      split
      · rename_i z
        rw [hv, ← z.1, ← z.2, e, Nat.zero_and]
      · exact e
    · exact ⟨x, y, t1, t3, by rw [up1_at]; exact q⟩
  · rw [Bool.or_eq_true, decide_eq_true_eq] at q
    rcases q with q | q
    · exact Nat.lt_of_le_of_lt (phi2_le hpop) (h8 q)
    · refine Nat.lt_of_lt_of_le (phi2_lt hpop t1 t3 ?_) h7
      rw [up1_at]
      exact pop_lt hsub (h1 x y t1 t3) q
  · rw [Bool.or_eq_false_iff, decide_eq_false_iff_not] at q
    have e : v = N x y := Classical.not_not.mp q.2
    rw [up1_id e]
    by_cases ej : j = k
    · rw [ej, ← hx, ← hb, ← hy]
      intro c hc
      rw [← e, hv] at hc
      exact Sub.and_r c hc
    · exact h9 q.1 j (by omega)
theorem CLI.pc {ev : Nat} {N0 Ns N : NF} {no : Bool} (h : CLI ev N0 Ns N (ev * ev * ev) false no) (h6 : ev < 6) : PC ev N := fun a b c ha hb hc => by
  obtain ⟨q1, q2, q3, q4⟩ := k3_s ev h6 a ha b hb c hc
  have := h.2.2.2.2.2.2.2 rfl _ q1
  rw [q2, q3, q4] at this
  exact this
theorem cl_sym {ev : Nat} {N0 N : NF} (hs : SYM ev N0) (hlt : ∀ x y, x < ev → y < ev → N x y < 8192) (hle : LE ev N N0) (hg : ∀ M, PC ev M → LE ev M N0 → LE ev M N) (hpc : PC ev N) (hn : NZ ev N) : SYM ev N := by
  have hT : LE ev (fun a b => trn (N b a)) N := by
    refine hg _ (fun a b c ha hb hc => ?_) (fun a b ha hb => ?_)
    · show Sub (trn (N c a)) (cmps (trn (N b a)) (trn (N c b)))
      rw [← trn_cmps]
      exact trn_sub (hpc c b a hc hb ha)
    · show Sub (trn (N b a)) (N0 a b)
      rw [(hs.1 b a hb ha).1]
      exact trn_sub (hle b a hb ha)
  refine ⟨fun a b ha hb => ⟨?_, hlt a b ha hb⟩, fun a ha => ?_⟩
  · refine Sub.antisymm ?_ (hT b a hb ha)
    have := trn_sub (hT a b ha hb)
    rw [trn_trn (hlt b a hb ha)] at this
    exact this
  · have h1 : Sub (N a a) 64 := by
      have := hle a a ha ha
      rw [hs.2 a ha] at this
      exact this
    refine Sub.antisymm h1 (fun c hc => ?_)
    have hc6 := bit64.mp hc
    subst hc6
    obtain ⟨c, _, c2⟩ := nz_bit (hlt a a ha ha) (hn a a ha ha)
    have := bit64.mp (h1 c c2)
    rw [← this]
    exact c2
theorem CLI.fin {ev : Nat} {N0 Ns N : NF} (h : CLI ev N0 Ns N (ev * ev * ev) false false) (h6 : ev < 6) (hs : SYM ev N0) : IsCl ev N0 N false := by
  have hpc := h.pc h6
  obtain ⟨h1, h2, h3, h4, _⟩ := h
  exact Or.inl ⟨rfl, cl_sym hs h1 h2 h3 hpc (h4 rfl), h4 rfl, h2, hpc, h3⟩
theorem CLI.zero {ev k : Nat} {N0 Ns N : NF} {mo : Bool} (h : CLI ev N0 Ns N k mo true) : IsCl ev N0 (fun _ _ => 0) true := by
  obtain ⟨h1, h2, h3, h4, h5, _⟩ := h
  exact Or.inr ⟨rfl, fun _ _ _ _ => rfl, fun M hM hMN => (h3 M hM hMN).zero (h5 rfl)⟩
