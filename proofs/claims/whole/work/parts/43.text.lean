/-! The reader: readItem, readText -/
def stopR (t : Nat → Nat) (n : Nat) (R : (Nat × List Ob × Toks) ⊕ Nat) : (Nat × List Ob × Toks) ⊕ Nat := match R with
  | .inr q => .inr q
  | .inl (ev, L, r) => (match r with
    | [] => .inr n
    | (q, _) :: r2 => if kAt t n q = 3 then .inl (ev, L, r2) else .inr q)
def prs (t : Nat → Nat) (n : Nat) : Nat → Nat → Nat → List Ob → Toks → (Nat × Nat × List Ob) ⊕ Nat
  | 0, _, _, _, _ => .inr 0
  | f + 1, items, ev, L, T => match T with
    | [] => .inl (items, ev, L)
    | tk :: r => (match stopR t n (itm t n (decide (items = 0)) ev L (tk :: r)) with
      | .inr q => .inr q
      | .inl (ev1, L1, r2) => prs t n f (items + 1) ev1 L1 r2)
theorem tls_len {t : Nat → Nat} {n : Nat} : ∀ {f k : Nat}, k ≤ n → (tls t n f k).length ≤ n - k
  | 0, _, _ => by simp [tls]
  | f + 1, k, h => by
    simp only [tls]
    obtain ⟨w1, w2, w3, w4⟩ := tk_le (t := t) h
    split
    · rename_i q
      have := tkE_gt (t := t) q
      have := tls_len (t := t) (f := f) w4
      simp only [List.length_cons]
      omega
    · simp
theorem itm_len {t : Nat → Nat} {n ev : Nat} {first : Bool} {L : List Ob} {T : Toks} {ev1 : Nat} {L1 : List Ob} {r : Toks} (h : itm t n first ev L T = .inl (ev1, L1, r)) : r.length ≤ T.length := by
  unfold itm at h
  repeat' split at h
  all_goals first | (cases h; done) | (cases h; simp only [List.length_cons]; omega)
theorem stop_len {t : Nat → Nat} {n ev : Nat} {first : Bool} {L : List Ob} {T : Toks} {ev1 : Nat} {L1 : List Ob} {r : Toks} (h : stopR t n (itm t n first ev L T) = .inl (ev1, L1, r)) : r.length + 1 ≤ T.length := by
  cases hi : itm t n first ev L T with
  | inr q => rw [hi] at h; simp [stopR] at h
  | inl x =>
    obtain ⟨ev2, L2, r2⟩ := x
    have := itm_len hi
    rw [hi] at h
    simp only [stopR] at h
    split at h
    · cases h
    · split at h
      · cases h
        simp only [List.length_cons] at this
        omega
      · cases h
set_option maxRecDepth 10000 in
theorem c_readItem (I : SI) (J : SJ) (n p e ev : Nat) (first : Bool) (L : List Ob) (t : Nat → Nat) (h : TX I n t) (hB : BK I 0 ev L) (hT : TKS I n t p e) (d : Nat) (hd : 6 < d) : Tri d YX6_readItem 117 [vr 20 0, vi (bi first)] (S0 I J) (fun r σ => ∃ b I1, r = some (vi (bi b)) ∧ σ = S0 I1 J ∧ frE I I1 ∧ RES I1 n t (stopR t n (itm t n first ev L ((p, e) :: TL t n e))) b) := by
  refine Tri.of (M := MX6_readItem) k_X6_readItem ⟨Nat.le_refl _, Nat.le_refl _⟩ (Nat.le_of_ble_eq_true rfl) ?_
  generalize hQ : (fun (r : Option AV) (σ : ST) => ∃ b I1, r = some (vi (bi b)) ∧ σ = S0 I1 J ∧ frE I I1 ∧ RES I1 n t (stopR t n (itm t n first ev L ((p, e) :: TL t n e))) b) = Q
  have after : ∀ (b : Bool) (I1 : SI) (R : (Nat × List Ob × Toks) ⊕ Nat), itm t n first ev L ((p, e) :: TL t n e) = R → frE I I1 → RES I1 n t R b → Sat none MX6_readItem d 117 Q 32 [some (vr 20 0), some (vi (bi first)), none] [vi (bi b)] (S0 I1 J) := fun b I1 R hR f1 f2 => by
    refine Sat.of k_X6_readItem [] 60 ?_
    refine ⟨fun c => ?_, fun c => ⟨rfl, Or.inl rfl, ?_⟩⟩
    · have eb := bi_t c
      subst eb
      cases R with
      | inr q => exact absurd f2.1 (by decide)
      | inl x =>
        obtain ⟨ev1, L1, r⟩ := x
        obtain ⟨_, g1, k, g2, g3, g4⟩ := f2
        refine ⟨2, 117, by omega, Nat.le_refl _, (c_readToken I1 J n k t (h.E f1) g3 g2 2 (by decide)).mono ?_⟩
        rintro v σ ⟨rfl, I2, rfl, m1, m2⟩
        obtain ⟨q, f, hT1, hc⟩ := m2.now g2
        have hk4 := kAt_le (t := t) (n := n) (p := q)
        have h3 : I2 20 0 5 = nI (kAt t n q) := hT1.1.2.2.1
        refine ⟨fun c1 => ⟨rfl, Or.inl rfl, ?_⟩, fun c1 => ⟨rfl, Or.inr rfl, ?_⟩⟩
        · have c1 : ¬ I2 20 0 5 = nI 3 := c1
          rw [h3] at c1
          have hn3 : kAt t n q ≠ 3 := fun e => c1 (by rw [e])
          rw [← hQ]
          refine ⟨false, I2, rfl, rfl, f1.tr m1.E, ?_⟩
          rw [hR]
          simp only [stopR]
          rw [← g4]
          rcases hc with ⟨j1, j2, j3⟩ | ⟨j1, j2, j3⟩
          · rw [j2]
            simp only
            rw [if_neg hn3]
            exact ⟨rfl, hT1.1.1⟩
          · rw [j2]
            exact ⟨rfl, by rw [hT1.1.1, j1]⟩
        · have c1 : I2 20 0 5 = nI 3 := c1
          rw [h3] at c1
          have h33 := (nI_eq (by omega) (by decide)).mp c1
          rw [← hQ]
          refine ⟨true, I2, rfl, rfl, f1.tr m1.E, ?_⟩
          rw [hR]
          simp only [stopR]
          rw [← g4]
          rcases hc with ⟨j1, j2, j3⟩ | ⟨j1, j2, j3⟩
          · rw [j2]
            simp only
            rw [if_pos h33]
            exact ⟨rfl, g1.D m1, f, hT1.2.2.2, hT1.1.2.1, rfl⟩
          · omega
    · have eb := bi_f c
      subst eb
      cases R with
      | inl x =>
        obtain ⟨ev1, L1, r⟩ := x
        exact absurd f2.1 (by decide)
      | inr q =>
        rw [← hQ]
        refine ⟨false, I1, rfl, rfl, f1, ?_⟩
        rw [hR]
        exact f2
  refine Sat.of k_X6_readItem [32] 60 ?_
  refine ⟨4, 117, by omega, Nat.le_refl _, (c_isRow I J n p e 0 t h hT (by decide) 4 (by decide)).mono ?_⟩
  rintro r σ ⟨rfl, rfl⟩
  refine ⟨fun c => ⟨6, 117, hd, Nat.le_refl _, (c_readObservation I J n p e ev L t h hB hT 6 (by decide)).mono ?_⟩, fun c => ⟨fun c1 => ?_, fun c1 => ⟨3, 117, by omega, Nat.le_refl _, (c_readEvents I J n e ev L t h hB hT.1.2.1 hT.2.2.2 3 (by decide)).mono ?_⟩⟩⟩
  · have c := bi_f c
    rintro r σ ⟨b, I1, rfl, rfl, f1, f2⟩
    exact after b I1 _ (itm_cons c) f1 f2
  · have c := bi_t c
    have c1 := bi_f c1
    refine after false I (.inr p) ?_ frE.rf ⟨rfl, hT.1.1⟩
    simp only [itm]
    rw [if_pos c, c1]
  · have c := bi_t c
    have c1 := bi_t c1
    rintro r σ ⟨b, I1, rfl, rfl, f1, f2⟩
    have hR : itm t n first ev L ((p, e) :: TL t n e) = (match TL t n e with | [] => .inr n | (q, f) :: r2 => if kAt t n q = 2 ∧ 2 ≤ vlN t q (f - q) ∧ vlN t q (f - q) ≤ 5 then .inl (vlN t q (f - q), L, r2) else .inr q) := by
      simp only [itm]
      rw [if_pos c, c1]
      cases TL t n e with
      | nil => rfl
      | cons a r => rfl
    refine ⟨fun c2 => ?_, fun c2 => ?_⟩
    · have e2 := bi_f c2
      subst e2
      exact after false I1 _ hR f1 f2
    · have e2 := bi_t c2
      subst e2
      exact after true I1 _ hR f1 f2
theorem tls_pl {t : Nat → Nat} {n : Nat} : ∀ {f k : Nat}, ∀ x ∈ tls t n f k, x.1 ≤ n
  | 0, _, x, h => by simp [tls] at h
  | f + 1, k, x, h => by
    simp only [tls] at h
    split at h
    · rename_i q
      rcases List.mem_cons.mp h with e | e
      · rw [e]
        exact Nat.le_of_lt q
      · exact tls_pl x e
    · simp at h
theorem itm_le {t : Nat → Nat} {n ev q : Nat} {first : Bool} {L : List Ob} {T : Toks} (hT : ∀ x ∈ T, x.1 ≤ n) (h : itm t n first ev L T = .inr q) : q ≤ n := by
  unfold itm at h
  repeat' split at h
  all_goals first | (cases h; done) | (cases h; exact Nat.le_refl _) | (cases h; simp only [List.mem_cons, forall_eq_or_imp] at hT; first | exact hT.1 | exact hT.2.1 | exact hT.2.2.1)
theorem itm_sub {t : Nat → Nat} {n ev : Nat} {first : Bool} {L : List Ob} {T : Toks} {ev1 : Nat} {L1 : List Ob} {r : Toks} (h : itm t n first ev L T = .inl (ev1, L1, r)) : ∀ x ∈ r, x ∈ T := by
  unfold itm at h
  repeat' split at h
  all_goals first | (cases h; done) | (cases h; intro x hx; simp [hx])
theorem stop_le {t : Nat → Nat} {n ev q : Nat} {first : Bool} {L : List Ob} {T : Toks} (hT : ∀ x ∈ T, x.1 ≤ n) (h : stopR t n (itm t n first ev L T) = .inr q) : q ≤ n := by
  cases hi : itm t n first ev L T with
  | inr q2 =>
    rw [hi] at h
    simp only [stopR] at h
    cases h
    exact itm_le hT hi
  | inl x =>
    obtain ⟨ev2, L2, r2⟩ := x
    have := itm_sub hi
    rw [hi] at h
    simp only [stopR] at h
    split at h
    · cases h
      exact Nat.le_refl _
    · split at h
      · cases h
      · cases h
        exact hT _ (this _ List.mem_cons_self)
/-- what the text tells -/
def told (t : Nat → Nat) (n : Nat) : (Nat × Nat × List Ob) ⊕ Nat := prs t n 162 0 3 [] (TL t n 0)
def RET (I : SI) (R : (Nat × Nat × List Ob) ⊕ Nat) (x : Int32) : Prop := match R with
  | .inl (items, ev, L) => x = nI items ∧ items ≤ 160 ∧ BK I 0 ev L
  | .inr q => x = -10 - nI q ∧ q ≤ 160
set_option maxRecDepth 10000 in
theorem c_readText (I : SI) (J : SJ) (n : Nat) (t : Nat → Nat) (hn : n ≤ 160) (hx : ∀ i, i < n → I 26 0 i = nI (t i) ∧ t i ≤ 255) (d : Nat) (hd : 7 < d) : Tri d YX6_readText 117 [vr 20 0, vi (nI n)] (S0 I J) (fun r σ => ∃ x I1, r = some (vi x) ∧ σ = S0 I1 J ∧ RET I1 (told t n) x ∧ ∀ a b, ¬ (a = 20 ∧ b = 0) → ¬ (3 ≤ a ∧ a ≤ 6 ∧ b = 0) → I1 a b = I a b) := by
  refine Tri.of (M := MX6_readText) k_X6_readText ⟨Nat.le_refl _, Nat.le_refl _⟩ (Nat.le_of_ble_eq_true rfl) ?_
  generalize hQ : (fun (r : Option AV) (σ : ST) => ∃ x I1, r = some (vi x) ∧ σ = S0 I1 J ∧ RET I1 (told t n) x ∧ ∀ a b, ¬ (a = 20 ∧ b = 0) → ¬ (3 ≤ a ∧ a ≤ 6 ∧ b = 0) → I1 a b = I a b) = Q
  have loop : ∀ (m items k ev : Nat) (L : List Ob) (I1 : SI), items + m = 161 → k ≤ n → TX I1 n t → BK I1 0 ev L → I1 20 0 4 = nI k → items + (TL t n k).length ≤ 160 → prs t n (m + 1) items ev L (TL t n k) = told t n → (∀ a b, ¬ (a = 20 ∧ b = 0) → ¬ (3 ≤ a ∧ a ≤ 6 ∧ b = 0) → I1 a b = I a b) → Sat none MX6_readText d 117 Q 36 [some (vr 20 0), some (vi (nI n)), some (vi (nI items))] [] (S0 I1 J) := by
    intro m
    induction m with
    | zero =>
      intro items k ev L I1 hi hk hX hB h4 hlen hR hf
      omega
    | succ m ih =>
      intro items k ev L I1 hi hk hX hB h4 hlen hR hf
      refine Sat.of k_X6_readText [36] 60 ?_
      refine ⟨fun c => absurd ((nI_ltI (a := 160) (b := items) (by decide) (by omega)).mp c) (by omega), fun c => ⟨2, 117, by omega, Nat.le_refl _, (c_readToken I1 J n k t hX h4 hk 2 (by decide)).mono ?_⟩⟩
      rintro r σ ⟨rfl, I2, rfl, m1, m2⟩
      obtain ⟨p, e, hT, hc⟩ := m2.now hk
      have hk4 := kAt_le (t := t) (n := n) (p := p)
      have h3 : I2 20 0 5 = nI (kAt t n p) := hT.1.2.2.1
      have hf2 : ∀ a b, ¬ (a = 20 ∧ b = 0) → ¬ (3 ≤ a ∧ a ≤ 6 ∧ b = 0) → I2 a b = I a b := fun a b q1 q2 => (m1.1 a b q1).trans (hf a b q1 q2)
      refine ⟨fun c1 => ?_, fun c1 => ⟨rfl, trivial, ?_⟩⟩
      · have c1 : ¬ I2 20 0 5 = nI 0 := c1
        rw [h3] at c1
        rcases hc with ⟨g1, g2, g3⟩ | ⟨g1, g2, g3⟩
        · have hitem : ∀ b : Bool, b = decide (items = 0) → ∃ d1 n1, d1 < d ∧ n1 ≤ 117 ∧ Tri d1 YX6_readItem n1 [vr 20 0, vi (bi b)] (S0 I2 J) (fun r σ => ∃ b1 I3, r = some (vi (bi b1)) ∧ σ = S0 I3 J ∧ frE I2 I3 ∧ RES I3 n t (stopR t n (itm t n (decide (items = 0)) ev L ((p, e) :: TL t n e))) b1) := fun b hb => by
            subst hb
            exact ⟨7, 117, hd, Nat.le_refl _, c_readItem I2 J n p e ev _ L t (hX.fr m1) (hB.D m1) hT 7 (by decide)⟩
          rw [g2] at hR hlen
          simp only [prs] at hR
          have go : ∀ (b1 : Bool) (I3 : SI), frE I2 I3 → RES I3 n t (stopR t n (itm t n (decide (items = 0)) ev L ((p, e) :: TL t n e))) b1 → (b1 = true → Sat none MX6_readText d 117 Q 36 [some (vr 20 0), some (vi (nI n)), some (vi (nI (items + 1)))] [] (S0 I3 J)) ∧ (b1 = false → Q (some (vi ((-10 : Int32) - I3 20 0 3))) (S0 I3 J)) := fun b1 I3 f1 f2 => by
            have hf3 : ∀ a b, ¬ (a = 20 ∧ b = 0) → ¬ (3 ≤ a ∧ a ≤ 6 ∧ b = 0) → I3 a b = I a b := fun a b q1 q2 => (f1.1 a b q1 q2).trans (hf2 a b q1 q2)
            cases hs : stopR t n (itm t n (decide (items = 0)) ev L ((p, e) :: TL t n e)) with
            | inr q =>
              rw [hs] at f2 hR
              obtain ⟨e1, e2⟩ := f2
              refine ⟨fun q1 => absurd (q1.symm.trans e1) (by decide), fun _ => ?_⟩
              rw [← hQ]
              refine ⟨_, I3, rfl, rfl, ?_, hf3⟩
              rw [← hR, e2]
              have hq := stop_le (fun x hx => tls_pl x (by rw [← g2] at hx; exact hx)) hs
              exact ⟨rfl, by omega⟩
            | inl x =>
              obtain ⟨ev1, L1, r2⟩ := x
              have hl2 := stop_len hs
              rw [hs] at f2 hR
              obtain ⟨e1, e2, k1, e3, e4, e5⟩ := f2
              refine ⟨fun _ => ?_, fun q1 => absurd (q1.symm.trans e1) (by decide)⟩
              refine ih (items + 1) k1 ev1 L1 I3 (by omega) e3 ((hX.fr m1).E f1) e2 e4 ?_ ?_ hf3
              · rw [e5]
                omega
              · rw [e5]
                exact hR
          have tail : ∀ b : Bool, b = decide (items = 0) → ∃ d1 n1, d1 < d ∧ n1 ≤ 117 ∧ Tri d1 YX6_readItem n1 [vr 20 0, vi (bi b)] (S0 I2 J) (fun r σ => ∃ b1 I3, r = some (vi (bi b1)) ∧ σ = S0 I3 J ∧ (b1 = true → Sat none MX6_readText d 117 Q 36 [some (vr 20 0), some (vi (nI n)), some (vi (nI (items + 1)))] [] (S0 I3 J)) ∧ (b1 = false → Q (some (vi ((-10 : Int32) - I3 20 0 3))) (S0 I3 J))) := fun b hb => by
            obtain ⟨d1, n1, k1, k2, k3⟩ := hitem b hb
            refine ⟨d1, n1, k1, k2, k3.mono ?_⟩
            rintro r σ ⟨b1, I3, rfl, rfl, f1, f2⟩
            exact ⟨b1, I3, rfl, rfl, go b1 I3 f1 f2⟩
          refine ⟨fun c2 => ?_, fun c2 => ?_⟩
          · have c2 : ¬ nI items = nI 0 := c2
            obtain ⟨d1, n1, k1, k2, k3⟩ := tail false (decide_eq_false (fun e => c2 (by rw [e]))).symm
            refine ⟨d1, n1, k1, k2, k3.mono ?_⟩
            rintro r σ ⟨b1, I3, rfl, rfl, f1, f2⟩
            exact ⟨fun c3 => (f1 (bi_t c3)).to (by rw [← nI_1]; rfl) rfl, fun c3 => ⟨rfl, trivial, f2 (bi_f c3)⟩⟩
          · have c2 : nI items = nI 0 := c2
            obtain ⟨d1, n1, k1, k2, k3⟩ := tail true (decide_eq_true ((nI_eq (by omega) (by decide)).mp c2)).symm
            refine ⟨d1, n1, k1, k2, k3.mono ?_⟩
            rintro r σ ⟨b1, I3, rfl, rfl, f1, f2⟩
            exact ⟨fun c3 => (f1 (bi_t c3)).to (by rw [← nI_1]; rfl) rfl, fun c3 => ⟨rfl, trivial, f2 (bi_f c3)⟩⟩
        · exact absurd (by rw [g3]) c1
      · have c1 : I2 20 0 5 = nI 0 := c1
        rw [h3] at c1
        have e0 := (nI_eq (by omega) (by decide)).mp c1
        rcases hc with ⟨g1, g2, g3⟩ | ⟨g1, g2, g3⟩
        · unfold kAt at e0
          rw [if_pos g1] at e0
          have := (kdC_le (t p)).2
          omega
        · rw [g2] at hR
          rw [← hQ]
          refine ⟨_, I2, rfl, rfl, ?_, hf2⟩
          rw [← hR]
          exact ⟨rfl, by omega, hB.D m1⟩
  refine Sat.of k_X6_readText [36] 60 ?_
  generalize hI1 : uI (uI (uI (uI I 20 0 2 (nI n)) 20 0 4 0) 3 0 3 0) 3 0 4 3 = I1
  have e0 : (if nI 160 < nI n then nI 160 else nI n) = nI n := by rw [mnI (by omega) (by decide), Nat.min_eq_left hn]
  have hf : ∀ a b, ¬ (a = 20 ∧ b = 0) → ¬ (3 ≤ a ∧ a ≤ 6 ∧ b = 0) → I1 a b = I a b := fun a b q1 q2 => by
    rw [← hI1, uI_ne (fun q => q2 (by cases q; decide)), uI_ne (fun q => q2 (by cases q; decide)), uI_ne (fun q => q1 (by cases q; exact ⟨rfl, rfl⟩)), uI_ne (fun q => q1 (by cases q; exact ⟨rfl, rfl⟩))]
  have hX : TX I1 n t := ⟨by rw [← hI1, uI_t (by decide), uI_t (by decide), uI_j (by decide), uI_at], hn, fun i hi => by rw [hf 26 0 (by omega) (by omega)]; exact hx i hi⟩
  have hB : BK I1 0 3 [] := ⟨by rw [← hI1, uI_at]; rfl, by rw [← hI1, uI_j (by decide), uI_at]; rfl, by simp, by decide, by decide, fun j hj => absurd hj (by simp)⟩
  have h4 : I1 20 0 4 = nI 0 := by rw [← hI1, uI_t (by decide), uI_t (by decide), uI_at]; rfl
  have hlen : 0 + (TL t n 0).length ≤ 160 := by
    have := tls_len (t := t) (n := n) (f := n + 1 - 0) (k := 0) (by omega)
    unfold TL
    omega
  refine ⟨by omega, (loop 161 0 0 3 [] I1 (by omega) (by omega) hX hB h4 hlen rfl hf).to rfl ?_⟩
  show (uI (uI (uI (uI I 20 0 2 (if nI 160 < nI n then nI 160 else nI n)) 20 0 4 0) 3 0 3 0) 3 0 4 3, J, 117, aT) = _
  rw [e0, hI1]
