/-! The model: closes -/
/-- locals that say less -/
def LW : LV → LV → Prop
  | [], [] => True
  | none :: l, _ :: l1 => LW l l1
  | some a :: l, b :: l1 => b = some a ∧ LW l l1
  | _, _ => False
theorem LW.len : ∀ {l l1 : LV}, LW l l1 → l.length = l1.length
  | [], [], _ => rfl
  | none :: l, _ :: l1, h => congrArg (· + 1) (LW.len (l := l) (l1 := l1) h)
  | some a :: l, b :: l1, h => congrArg (· + 1) (LW.len (l := l) (l1 := l1) h.2)
theorem LW.get : ∀ {l l1 : LV}, LW l l1 → ∀ i v, lget l i = some v → lget l1 i = some v
  | [], [], _, i, v, q => q
  | none :: l, _ :: l1, h, 0, v, q => by simp [lget] at q
  | none :: l, _ :: l1, h, i + 1, v, q => LW.get (l := l) (l1 := l1) h i v q
  | some a :: l, b :: l1, h, 0, v, q => by
    simp only [lget] at q ⊢
    rw [h.1]
    exact q
  | some a :: l, b :: l1, h, i + 1, v, q => LW.get (l := l) (l1 := l1) h.2 i v q
theorem Sat.lw {X : Option (Nat × (Nat → Int32))} {M : MD} {d N1 : Nat} {Q : Option AV → ST → Prop} {pc : Nat} {ls ls1 : LV} {st : List AV} {σ σ1 : ST} (h : Sat X M d N1 Q pc ls st σ) (hw : LW ls ls1) (e : σ1 = σ) : Sat X M d N1 Q pc ls1 st σ1 := by
  subst e
  intro E hX p e s m args below meth c R Z N0 hC hR H locs la h1 h2 h3 h4 h5 h6 h7
  obtain ⟨a1, a2, a3, a4⟩ := h3
  exact h E hX p e s m args below meth c R Z N0 hC hR H locs la h1 h2 ⟨a1, a2, hw.len.trans a3, fun i v q => a4 i v (hw.get i v q)⟩ h4 h5 h6 (fun i a q => h7 i a (hw.get i a q))
def CLS (I : SI) (ev : Nat) (N : NF) : Prop := ∀ x y, x < ev → y < ev → I 43 0 (ev * x + y) = nI (N x y)
def fr43 (I I1 : SI) : Prop := ∀ a b, a ≠ 43 → I1 a b = I a b
theorem fr43.u {I I1 : SI} {j : Nat} {x : Int32} (h : fr43 I I1) : fr43 I (uI I1 43 0 j x) := fun a b q => by rw [uI_tt q]; exact h a b q
def znN (f : Nat → Nat) : Nat → Bool
  | 0 => false
  | k + 1 => znN f k || decide (f k = 0)
theorem znN_t {f : Nat → Nat} : ∀ {k : Nat}, znN f k = true ↔ ∃ j, j < k ∧ f j = 0
  | 0 => ⟨fun h => by simp [znN] at h, fun ⟨j, h, _⟩ => absurd h (by omega)⟩
  | k + 1 => by
    simp only [znN]
    rw [Bool.or_eq_true, decide_eq_true_eq, znN_t (k := k)]
    constructor
    · rintro (⟨j, h1, h2⟩ | h)
      · exact ⟨j, by omega, h2⟩
      · exact ⟨k, by omega, h⟩
    · rintro ⟨j, h1, h2⟩
      by_cases e : j = k
      · exact Or.inr (by rw [← e]; exact h2)
      · exact Or.inl ⟨j, by omega, h2⟩
theorem ev_sq : ∀ ev, ev < 6 → 2 ≤ ev → 0 < ev * ev ∧ ev * ev ≤ 25 ∧ ev * ev * ev ≤ 125 := by decide +kernel
set_option maxRecDepth 10000 in
theorem m_closes (I : SI) (J : SJ) (ev : Nat) (L : List Ob) (h : MB I ev L) (d : Nat) (hd : 1 < d) : Tri d YX9_closes 117 [vr 29 0] (S0 I J) (fun r σ => r = none ∧ ∃ I1, σ = S0 I1 J ∧ (∃ N b, IsCl ev (tol L (Nat.testBit 0)) N b ∧ CLS I1 ev N) ∧ fr43 I I1) := by
  refine Tri.of (M := MX9_closes) k_X9_closes ⟨Nat.le_refl _, Nat.le_refl _⟩ (Nat.le_of_ble_eq_true rfl) ?_
  have h5 := h.2.2.1
  have h2 := h.2.1
  obtain ⟨v1, v2, v3⟩ := ev_sq ev (by omega) h2
  have hsym : SYM ev (tol L (Nat.testBit 0)) := tol_sym h.2.2.2.2.1
  generalize hN0 : tol L (Nat.testBit 0) = N0 at hsym
  generalize hQ : (fun (r : Option AV) (σ : ST) => r = none ∧ ∃ I1, σ = S0 I1 J ∧ (∃ N b, IsCl ev N0 N b ∧ CLS I1 ev N) ∧ fr43 I I1) = Q
  have eE : ∀ I1, fr43 I I1 → I1 29 0 6 = nI ev := fun I1 f => by rw [f 29 0 (by decide)]; exact h.1
  have eE2 : ∀ I1, fr43 I I1 → I1 29 0 6 * I1 29 0 6 = nI (ev * ev) := fun I1 f => by rw [eE I1 f, pk_mul]
  have eE3 : ∀ I1, fr43 I I1 → I1 29 0 6 * I1 29 0 6 * I1 29 0 6 = nI (ev * ev * ev) := fun I1 f => by rw [eE I1 f, pk_mul, pk_mul]
  have nz1 : ∀ I1, fr43 I I1 → ¬ I1 29 0 6 = 0 := fun I1 f q => by
    rw [eE I1 f, show (0 : Int32) = nI 0 from rfl, nI_eq (by omega) (by decide)] at q
    omega
  have nz2 : ∀ I1, fr43 I I1 → ¬ I1 29 0 6 * I1 29 0 6 = 0 := fun I1 f q => by
    rw [eE2 I1 f, show (0 : Int32) = nI 0 from rfl, nI_eq (by omega) (by decide)] at q
    omega
  -- the end
  have s273 : ∀ (m k : Nat) (I1 : SI), k + m = ev * ev → fr43 I I1 → IsCl ev N0 (fun _ _ => 0) true → (∀ j, j < k → I1 43 0 j = 0) → Sat none MX9_closes d 117 Q 273 [some (vr 29 0), some (vi 1), none, some (vi (nI k)), none, none, none, none] [] (S0 I1 J) := by
    intro m
    induction m with
    | zero =>
      intro k I1 hk f g1 g2
      refine Sat.of k_X9_closes [273] 60 ?_
      refine ⟨fun _ => ⟨rfl, rfl, ?_⟩, fun c => ?_⟩
      · rw [← hQ]
        refine ⟨rfl, I1, rfl, ⟨_, _, g1, fun x y hx hy => ?_⟩, f⟩
        have := k2_s ev (by omega) x hx y hy
        rw [g2 _ (by omega)]
        rfl
      · have c : ¬ I1 29 0 6 * I1 29 0 6 ≤ nI k := c
        rw [eE2 I1 f] at c
        exact absurd (nI_le (by omega) (by omega)) c
    | succ m ih =>
      intro k I1 hk f g1 g2
      have ek : (nI k).toNatClampNeg = k := nI_clamp (by omega)
      refine Sat.of k_X9_closes [273] 60 ?_
      refine ⟨fun c => ?_, fun _ => ⟨fun q => absurd q (by decide), fun _ => ⟨vp_in_nI (by omega) (by decide), ?_⟩⟩⟩
      · have c : I1 29 0 6 * I1 29 0 6 ≤ nI k := c
        rw [eE2 I1 f, nI_leI (by omega) (by omega)] at c
        omega
      · refine (ih (k + 1) (uI I1 43 0 k 0) (by omega) f.u g1 (fun j hj => ?_)).lw ⟨rfl, rfl, by rw [← nI_1], trivial⟩ (show (uI I1 43 0 (nI k).toNatClampNeg 0, J, 117, aT) = _ by rw [ek])
        by_cases e : j = k
        · rw [e, uI_at]
        · rw [uI_j e]
          exact g2 j (by omega)
  have s271 : ∀ (I1 : SI) (no : Bool) (N : NF), fr43 I I1 → (no = true → IsCl ev N0 (fun _ _ => 0) true) → (no = false → IsCl ev N0 N false ∧ CLS I1 ev N) → Sat none MX9_closes d 117 Q 271 [some (vr 29 0), some (vi (bi no)), none, none, none, none, none, none] [] (S0 I1 J) := by
    intro I1 no N f g1 g2
    cases no with
    | true =>
      refine Sat.of k_X9_closes [273] 60 ?_
      exact (s273 (ev * ev) 0 I1 (by omega) f (g1 rfl) (fun j hj => absurd hj (by omega))).to rfl rfl
    | false =>
      obtain ⟨z1, z2⟩ := g2 rfl
      refine Sat.of k_X9_closes [] 60 ?_
      refine ⟨fun _ => ⟨rfl, rfl, ?_⟩, fun _ => ⟨fun _ => ⟨rfl, rfl, ?_⟩, fun q => absurd rfl q⟩⟩
      · rw [← hQ]
        exact ⟨rfl, I1, rfl, ⟨_, _, z1, z2⟩, f⟩
      · rw [← hQ]
        exact ⟨rfl, I1, rfl, ⟨_, _, z1, z2⟩, f⟩
  -- a round
  have outer : ∀ (F : Nat) (N : NF) (I1 : SI) (no : Bool), phi2 ev N < F → fr43 I I1 → CLS I1 ev N → CLI ev N0 N N 0 false no → Sat none MX9_closes d 117 Q 84 [some (vr 29 0), some (vi (bi no)), some (vi 1), none, none, none, none, none] [] (S0 I1 J) := by
    intro F
    induction F with
    | zero => intro N I1 no hF; exact absurd hF (by omega)
    | succ F ihF =>
      intro Ns I1 no hF f1 hc1 hcl1
      have pass : ∀ (m k : Nat) (N : NF) (I2 : SI) (mo no : Bool), k + m = ev * ev * ev → fr43 I I2 → CLS I2 ev N → CLI ev N0 Ns N k mo no → Sat none MX9_closes d 117 Q 96 [some (vr 29 0), some (vi (bi no)), some (vi (bi mo)), some (vi (nI k)), none, none, none, none] [] (S0 I2 J) := by
        intro m
        induction m with
        | zero =>
          intro k N I2 mo no hk f hc hi
          have e : k = ev * ev * ev := by omega
          refine Sat.of k_X9_closes [84, 96] 60 ?_
          refine ⟨fun _ => ?_, fun c => ?_⟩
          · rw [e] at hi
            cases mo with
            | true =>
              refine (ihF N I2 no ?_ f hc ?_).lw ⟨rfl, rfl, rfl, trivial⟩ rfl
              · have := hi.2.2.2.2.2.2.1 rfl
                omega
              · obtain ⟨z1, z2, z3, z4, z5, _⟩ := hi
                exact ⟨z1, z2, z3, z4, z5, Nat.le_refl _, fun q => absurd q (by decide), fun _ j hj => absurd hj (by omega)⟩
            | false =>
              refine Sat.of k_X9_closes [271] 60 ?_
              refine ⟨fun _ => ?_, fun q => absurd rfl q⟩
              refine (s271 I2 no N f (fun q => ?_) (fun q => ?_)).lw ⟨rfl, rfl, trivial⟩ rfl
              · subst q
                exact hi.zero
              · subst q
                exact ⟨hi.fin (by omega) hsym, hc⟩
          · have c : ¬ I2 29 0 6 * I2 29 0 6 * I2 29 0 6 ≤ nI k := c
            rw [eE3 I2 f] at c
            exact absurd (nI_le (by omega) (by omega)) c
        | succ m ih =>
          intro k N I2 mo no hk f hc hi
          obtain ⟨t1, t2, t3⟩ := k3_t ev (by omega) k (by omega)
          have eone : nI k / (I2 29 0 6 * I2 29 0 6) = nI (k / (ev * ev)) := by rw [eE2 I2 f]; exact pk_div (by omega) (by omega) (by omega)
          have eby : nI k / I2 29 0 6 - nI k / I2 29 0 6 / I2 29 0 6 * I2 29 0 6 = nI (k / ev % ev) := by
            have : k / ev < 2 ^ 31 := Nat.lt_of_le_of_lt (Nat.div_le_self _ _) (by omega)
            rw [eE I2 f, pk_div (by omega) (by omega) (by omega), pk_rem this (by omega) (by omega)]
          have eot : nI k - nI k / I2 29 0 6 * I2 29 0 6 = nI (k % ev) := by rw [eE I2 f, pk_rem (by omega) (by omega) (by omega)]
          generalize hx : k / (ev * ev) = x at t1 eone
          generalize hb : k / ev % ev = b at t2 eby
          generalize hy : k % ev = y at t3 eot
          obtain ⟨_, _, _, r1⟩ := k2_s ev (by omega) x t1 y t3
          obtain ⟨_, _, _, r2⟩ := k2_s ev (by omega) x t1 b t2
          obtain ⟨_, _, _, r3⟩ := k2_s ev (by omega) b t2 y t3
          have ixy : I2 29 0 6 * nI x + nI y = nI (ev * x + y) := by rw [eE I2 f, pk_mul, nI_add]
          have ixb : I2 29 0 6 * nI x + nI b = nI (ev * x + b) := by rw [eE I2 f, pk_mul, nI_add]
          have iby : I2 29 0 6 * nI b + nI y = nI (ev * b + y) := by rw [eE I2 f, pk_mul, nI_add]
          have gxy : I2 43 0 (I2 29 0 6 * nI x + nI y).toNatClampNeg = nI (N x y) := by rw [ixy, nI_clamp (by omega), hc x y t1 t3]
          have gxb : I2 43 0 (I2 29 0 6 * nI x + nI b).toNatClampNeg = nI (N x b) := by rw [ixb, nI_clamp (by omega), hc x b t1 t2]
          have gby : I2 43 0 (I2 29 0 6 * nI b + nI y).toNatClampNeg = nI (N b y) := by rw [iby, nI_clamp (by omega), hc b y t2 t3]
          have vxy : vp_in (I2 29 0 6 * nI x + nI y) 25 := by rw [ixy]; exact vp_in_nI r1 (by decide)
          have vxb : vp_in (I2 29 0 6 * nI x + nI b) 25 := by rw [ixb]; exact vp_in_nI r2 (by decide)
          have vby : vp_in (I2 29 0 6 * nI b + nI y) 25 := by rw [iby]; exact vp_in_nI r3 (by decide)
          generalize hv : N x y &&& cmps (N x b) (N b y) = v
          have hvl : v < 8192 := by rw [← hv]; exact and_lt13 (hi.1 x y t1 t3)
          have hNl := hi.1 x y t1 t3
          have hst := hi.step (by omega) (by omega) hx.symm hb.symm hy.symm hv.symm
          have s244 : ∀ mo' no' : Bool, mo' = (mo || decide (v ≠ N x y)) → no' = (no || decide (v = 0)) → Sat none MX9_closes d 117 Q 244 [some (vr 29 0), some (vi (bi no)), some (vi (bi mo')), some (vi (nI k)), some (vi (nI x)), some (vi (nI b)), some (vi (nI y)), some (vi (nI v))] [vi (bi no')] (S0 I2 J) := fun mo' no' hm hn => by
            refine Sat.of k_X9_closes [96] 60 ?_
            refine ⟨vxy, ?_⟩
            refine (ih (k + 1) (up1 N x y v) (uI I2 43 0 (ev * x + y) (nI v)) mo' no' (by omega) f.u (fun a c ha hc2 => ?_) (by rw [hm, hn]; exact hst)).lw ⟨rfl, rfl, rfl, by rw [← nI_1], trivial⟩ ?_
            · by_cases e : a = x ∧ c = y
              · rw [e.1, e.2, uI_at, up1_at]
              · rw [up1_ne e, uI_j (fun q => e ?_)]
                · exact hc a c ha hc2
                · obtain ⟨_, m1, m2, _⟩ := k2_s ev (by omega) a ha c hc2
                  obtain ⟨_, m3, m4, _⟩ := k2_s ev (by omega) x t1 y t3
                  rw [q] at m1 m2
                  exact ⟨by rw [← m1, m3], by rw [← m2, m4]⟩
            · show (uI I2 43 0 (I2 29 0 6 * nI x + nI y).toNatClampNeg (nI v), J, 117, aT) = _
              rw [ixy, nI_clamp (by omega)]
          have s229 : ∀ mo' : Bool, mo' = (mo || decide (v ≠ N x y)) → Sat none MX9_closes d 117 Q 229 [some (vr 29 0), some (vi (bi no)), some (vi (bi mo)), some (vi (nI k)), some (vi (nI x)), some (vi (nI b)), some (vi (nI y)), some (vi (nI v))] [vi (bi mo')] (S0 I2 J) := fun mo' hm => by
            refine Sat.of k_X9_closes [96, 244] 60 ?_
            refine ⟨fun c => s244 mo' true hm ?_, fun c => ⟨fun c1 => s244 mo' false hm ?_, fun c1 => s244 mo' true hm ?_⟩⟩
            · rw [bi_t c]
              rfl
            · have c1 : ¬ nI v = nI 0 := c1
              rw [bi_f c, decide_eq_false (fun e => c1 (by rw [e]))]
              rfl
            · have c1 : nI v = nI 0 := c1
              rw [nI_eq (by omega) (by decide)] at c1
              rw [decide_eq_true c1, Bool.or_true]
          have n1 := nz1 I2 f
          have n2 := nz2 I2 f
          have goal : Sat none MX9_closes d 117 Q 148 [some (vr 29 0), some (vi (bi no)), some (vi (bi mo)), some (vi (nI k)), some (vi (nI x)), some (vi (nI b)), some (vi (nI y)), none] [] (S0 I2 J) := by
            refine Sat.of k_X9_closes [96, 229] 60 ?_
            refine ⟨vxy, vxb, vby, 0, 117, by omega, Nat.le_refl _, (m_composedOf I2 J (N x b) (N b y) (h.k (fun a b q => f a b (by omega))).2.2.2.2.2 (hi.1 x b t1 t2) (hi.1 b y t2 t3) 0).to ?_ rfl ?_⟩
            · show [vr 29 0, vi (I2 43 0 (I2 29 0 6 * nI x + nI b).toNatClampNeg), vi (I2 43 0 (I2 29 0 6 * nI b + nI y).toNatClampNeg)] = _
              rw [gxb, gby]
            · rintro r σ ⟨rfl, rfl⟩
              have eloc : I2 43 0 (I2 29 0 6 * nI x + nI y).toNatClampNeg &&& nI (cmps (N x b) (N b y)) = nI v := by rw [gxy, nx_an, hv]
              refine ⟨fun c => Sat.to (s229 true ?_) ?_ rfl, fun c => ⟨vxy, fun c1 => Sat.to (s229 false ?_) ?_ rfl, fun c1 => Sat.to (s229 true ?_) ?_ rfl⟩⟩
              · rw [bi_t c]
                rfl
              · rw [← eloc]
                rfl
              · have c1 : I2 43 0 (I2 29 0 6 * nI x + nI y).toNatClampNeg &&& nI (cmps (N x b) (N b y)) = I2 43 0 (I2 29 0 6 * nI x + nI y).toNatClampNeg := c1
                rw [eloc, gxy, nI_eq (by omega) (by omega)] at c1
                rw [bi_f c, decide_eq_false (fun q => q c1)]
                rfl
              · rw [← eloc]
                rfl
              · have c1 : ¬ I2 43 0 (I2 29 0 6 * nI x + nI y).toNatClampNeg &&& nI (cmps (N x b) (N b y)) = I2 43 0 (I2 29 0 6 * nI x + nI y).toNatClampNeg := c1
                rw [eloc, gxy] at c1
                rw [decide_eq_true (show v ≠ N x y from fun e => c1 (by rw [e])), Bool.or_true]
              · rw [← eloc]
                rfl
          refine Sat.of k_X9_closes [96, 148] 60 ?_
          refine ⟨fun c => ?_, fun _ => ⟨n2, n1, n1, n1, Sat.to goal ?_ rfl⟩⟩
          · have c : I2 29 0 6 * I2 29 0 6 * I2 29 0 6 ≤ nI k := c
            rw [eE3 I2 f, nI_leI (by omega) (by omega)] at c
            omega
          · show [some (vr 29 0), some (vi (bi no)), some (vi (bi mo)), some (vi (nI k)), some (vi (nI k / (I2 29 0 6 * I2 29 0 6))), some (vi (nI k / I2 29 0 6 - nI k / I2 29 0 6 / I2 29 0 6 * I2 29 0 6)), some (vi (nI k - nI k / I2 29 0 6 * I2 29 0 6)), none] = _
            rw [eone, eby, eot]
      cases no with
      | true =>
        refine Sat.of k_X9_closes [271] 60 ?_
        refine ⟨fun q => absurd q (by decide), fun _ => ⟨fun _ => ?_, fun q => absurd q (by decide)⟩⟩
        exact (s271 I1 true Ns f1 (fun _ => hcl1.zero) (fun q => absurd q (by decide))).lw ⟨rfl, rfl, trivial⟩ rfl
      | false =>
        refine Sat.of k_X9_closes [96] 60 ?_
        refine ⟨fun q => absurd q (by decide), fun _ => ⟨fun q => absurd rfl q, fun _ => ?_⟩⟩
        exact (pass (ev * ev * ev) 0 Ns I1 false false (by omega) f1 hc1 hcl1).to rfl rfl
  -- what is told
  have tell : ∀ (m k : Nat) (I1 : SI), k + m = ev * ev → fr43 I I1 → (∀ j, j < k → I1 43 0 j = nI (N0 (j / ev) (j % ev))) → Sat none MX9_closes d 117 Q 4 [some (vr 29 0), some (vi (bi (znN (fun j => N0 (j / ev) (j % ev)) k))), some (vi (nI k)), none, none, none, none, none] [] (S0 I1 J) := by
    intro m
    induction m with
    | zero =>
      intro k I1 hk f g
      have e : k = ev * ev := by omega
      subst e
      refine Sat.of k_X9_closes [4, 56, 75, 84] 60 ?_
      refine ⟨fun _ => ?_, fun c => ?_⟩
      · have hz : ZERO ev N0 ↔ znN (fun j => N0 (j / ev) (j % ev)) (ev * ev) = true := by
          rw [znN_t]
          constructor
          · rintro ⟨a, c, ha, hc, e⟩
            obtain ⟨q1, q2, q3, _⟩ := k2_s ev (by omega) a ha c hc
            exact ⟨ev * a + c, q1, by rw [q2, q3]; exact e⟩
          · rintro ⟨j, j1, j2⟩
            obtain ⟨q1, q2, _⟩ := k2_t ev (by omega) j j1
            exact ⟨_, _, q1, q2, j2⟩
        refine (outer (phi2 ev N0 + 1) N0 I1 _ (by omega) f (fun x y hx hy => ?_) ⟨fun x y hx hy => (hsym.1 x y hx hy).2, LE.rf, fun _ _ q => q, fun q => nz_not.mpr (fun z => ?_), fun q => hz.mpr q, Nat.le_refl _, fun q => absurd q (by decide), fun _ j hj => absurd hj (by omega)⟩).to rfl rfl
        · obtain ⟨q1, q2, q3, _⟩ := k2_s ev (by omega) x hx y hy
          rw [g _ q1, q2, q3]
        · rw [hz.mp z] at q
          cases q
      · have c : ¬ I1 29 0 6 * I1 29 0 6 ≤ nI (ev * ev) := c
        rw [eE2 I1 f] at c
        exact absurd (nI_le (Nat.le_refl _) (by omega)) c
    | succ m ih =>
      intro k I1 hk f g
      have ek : (nI k).toNatClampNeg = k := nI_clamp (by omega)
      have hvk : vp_in (nI k) 25 := vp_in_nI (by omega) (by decide)
      obtain ⟨t1, t2, t3, _⟩ := k2_t ev (by omega) k (by omega)
      have e1 : nI k / I1 29 0 6 = nI (k / ev) := by rw [eE I1 f]; exact pk_div (by omega) (by omega) (by omega)
      have e2 : nI k - nI k / I1 29 0 6 * I1 29 0 6 = nI (k % ev) := by rw [eE I1 f, pk_rem (by omega) (by omega) (by omega)]
      have hl := (hsym.1 _ _ t1 t2).2
      have s56 : ∀ w, w = N0 (k / ev) (k % ev) → Sat none MX9_closes d 117 Q 56 [some (vr 29 0), some (vi (bi (znN (fun j => N0 (j / ev) (j % ev)) k))), some (vi (nI k)), some (vi (nI (k / ev))), some (vi (nI (k % ev))), none, none, none] [vi (nI w), vi (nI k), vr 43 0] (S0 I1 J) := fun w hw => by
        have hg : ∀ j, j < k + 1 → uI I1 43 0 k (nI w) 43 0 j = nI (N0 (j / ev) (j % ev)) := fun j hj => by
          by_cases e : j = k
          · rw [e, uI_at, hw]
          · rw [uI_j e]
            exact g j (by omega)
        have s75 : ∀ b : Bool, b = znN (fun j => N0 (j / ev) (j % ev)) (k + 1) → Sat none MX9_closes d 117 Q 75 [some (vr 29 0), some (vi (bi (znN (fun j => N0 (j / ev) (j % ev)) k))), some (vi (nI k)), some (vi (nI (k / ev))), some (vi (nI (k % ev))), none, none, none] [vi (bi b)] (S0 (uI I1 43 0 k (nI w)) J) := fun b hb => by
          refine Sat.of k_X9_closes [4] 60 ?_
          refine (ih (k + 1) (uI I1 43 0 k (nI w)) (by omega) f.u hg).lw ⟨rfl, by rw [← hb], by rw [← nI_1], trivial⟩ rfl
        refine Sat.of k_X9_closes [4, 75] 60 ?_
        refine ⟨hvk, ?_⟩
        have eT : (uI I1 43 0 (nI k).toNatClampNeg (nI w), J, 117, aT) = S0 (uI I1 43 0 k (nI w)) J := by rw [ek]
        refine ⟨fun c => (s75 true ?_).to rfl eT, fun c => ⟨hvk, fun c1 => (s75 false ?_).to rfl eT, fun c1 => (s75 true ?_).to rfl eT⟩⟩
        · simp only [znN]
          rw [bi_t c]
          rfl
        · have c1 : ¬ uI I1 43 0 (nI k).toNatClampNeg (nI w) 43 0 (nI k).toNatClampNeg = nI 0 := c1
          rw [uI_at] at c1
          have c2 : ¬ N0 (k / ev) (k % ev) = 0 := fun e => c1 (by rw [hw, e])
          show false = (znN _ k || decide (N0 (k / ev) (k % ev) = 0))
          rw [bi_f c, decide_eq_false c2]
          rfl
        · have c1 : uI I1 43 0 (nI k).toNatClampNeg (nI w) 43 0 (nI k).toNatClampNeg = nI 0 := c1
          rw [uI_at, nI_eq (by omega) (by decide)] at c1
          have c2 : N0 (k / ev) (k % ev) = 0 := by rw [← hw, c1]
          show true = (znN _ k || decide (N0 (k / ev) (k % ev) = 0))
          rw [decide_eq_true c2, Bool.or_true]
      have n1 := nz1 I1 f
      have goal : Sat none MX9_closes d 117 Q 32 [some (vr 29 0), some (vi (bi (znN (fun j => N0 (j / ev) (j % ev)) k))), some (vi (nI k)), some (vi (nI (k / ev))), some (vi (nI (k % ev))), none, none, none] [] (S0 I1 J) := by
        refine Sat.of k_X9_closes [4, 56] 60 ?_
        refine ⟨fun c => ⟨1, 117, hd, Nat.le_refl _, (m_toldOf I1 J ev (k / ev) (k % ev) 0 L (h.k (fun a b q => f a b (by omega))) (by omega) (by omega) (by decide) 1 (by decide)).mono ?_⟩, fun c => s56 64 ?_⟩
        · have c : ¬ nI (k / ev) = nI (k % ev) := c
          rintro r σ ⟨rfl, rfl⟩
          refine s56 _ ?_
          rw [← hN0]
          unfold tol tolN
          rw [if_neg (fun e => c (by rw [e]))]
        · have c : nI (k / ev) = nI (k % ev) := c
          rw [nI_eq (by omega) (by omega)] at c
          rw [c]
          exact (hsym.2 _ t2).symm
      refine Sat.of k_X9_closes [4, 32] 60 ?_
      refine ⟨fun c => ?_, fun _ => ⟨n1, n1, Sat.to goal ?_ rfl⟩⟩
      · have c : I1 29 0 6 * I1 29 0 6 ≤ nI k := c
        rw [eE2 I1 f, nI_leI (by omega) (by omega)] at c
        omega
      · show [some (vr 29 0), some (vi (bi (znN (fun j => N0 (j / ev) (j % ev)) k))), some (vi (nI k)), some (vi (nI k / I1 29 0 6)), some (vi (nI k - nI k / I1 29 0 6 * I1 29 0 6)), none, none, none] = _
        rw [e2, e1]
  refine Sat.of k_X9_closes [4] 60 ?_
  exact (tell (ev * ev) 0 I (by omega) (fun _ _ _ => rfl) (fun j hj => absurd hj (by omega))).to rfl rfl
