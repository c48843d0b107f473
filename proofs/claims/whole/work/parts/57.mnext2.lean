/-! The model: isNext -/
def trl (l : HS) (p : Nat) : HS := fun q => if q < p then l q else 0
def brn (N : NF) (P p : Nat) (l : HS) (c : Nat) : List HS := catF (fun r => if agP N p r l then ext N (P - p - 1) (p + 1) (put1 (trl l p) p r) else []) c (13 - c)
/-- what is still to come at the pair p, from the relation c on -/
def rem (N : NF) (P : Nat) : Nat → Nat → HS → List HS
  | 0, c, l => brn N P 0 l c
  | p + 1, c, l => brn N P (p + 1) l c ++ rem N P p (l p + 1) l
theorem trl_congr {l l1 : HS} {p : Nat} (h : ∀ q, q < p → l1 q = l q) : trl l1 p = trl l p := by
  funext q
  unfold trl
  by_cases e : q < p
  · rw [if_pos e, if_pos e, h q e]
  · rw [if_neg e, if_neg e]
theorem brn_congr {N : NF} {P p c : Nat} {l l1 : HS} (hp : p < 10) (h : ∀ q, q < p → l1 q = l q) : brn N P p l1 c = brn N P p l c := by
  unfold brn
  refine catF_congr (fun r _ _ => ?_)
  rw [agP_congr hp h, trl_congr h]
theorem rem_congr {N : NF} {P : Nat} {l l1 : HS} : ∀ {p c : Nat}, p < 10 → (∀ q, q < p → l1 q = l q) → rem N P p c l1 = rem N P p c l
  | 0, c, hp, h => brn_congr hp h
  | p + 1, c, hp, h => by
    simp only [rem]
    rw [brn_congr hp h, h p (by omega), rem_congr (by omega) (fun q hq => h q (by omega))]
theorem brn_step {N : NF} {P p c : Nat} {l : HS} (hc : c < 13) : brn N P p l c = (if agP N p c l then ext N (P - p - 1) (p + 1) (put1 (trl l p) p c) else []) ++ brn N P p l (c + 1) := by
  unfold brn
  rw [show 13 - c = (13 - (c + 1)) + 1 by omega]
  rfl
theorem brn_end {N : NF} {P p : Nat} {l : HS} : brn N P p l 13 = [] := rfl
theorem rem_step {N : NF} {P p c : Nat} {l : HS} (hc : c < 13) : rem N P p c l = (if agP N p c l then ext N (P - p - 1) (p + 1) (put1 (trl l p) p c) else []) ++ rem N P p (c + 1) l := by
  cases p with
  | zero =>
    simp only [rem]
    exact brn_step hc
  | succ p =>
    simp only [rem]
    rw [brn_step hc, List.append_assoc]
theorem trl_self {l : HS} {p r : Nat} : trl (put1 (trl l p) p r) (p + 1) = put1 (trl l p) p r := by
  funext q
  unfold trl put1
  by_cases e : q < p + 1
  · rw [if_pos e]
  · rw [if_neg e, if_neg (show ¬ q = p by omega)]
    exact (if_neg (show ¬ q < p by omega)).symm
theorem ext_brn {N : NF} {P p : Nat} {l : HS} (hp : p < P) (hP : P ≤ 10) (he : trl l p = l) : ext N (P - p) p l = brn N P p l 0 := by
  obtain ⟨k, hk⟩ : ∃ k, P - p = k + 1 := ⟨P - p - 1, by omega⟩
  unfold brn
  rw [hk]
  simp only [ext, he, Nat.add_sub_cancel, Nat.sub_zero]
def NX (N : NF) (P : Nat) (X : List HS) (v : Option AV) (I1 : SI) : Prop := match X with
  | [] => v = some (vi 0)
  | h :: t => v = some (vi 1) ∧ TRD I1 P h ∧ GOOD N P h ∧ rem N P (P - 1) (h (P - 1) + 1) h = t
def fr42 (I I1 : SI) : Prop := ∀ a b, a ≠ 42 → I1 a b = I a b
theorem fr42.M {I I1 : SI} (h : fr42 I I1) : frM I I1 := fun a b q => h a b (by omega)
theorem fr42.u {I I1 : SI} {j : Nat} {x : Int32} (h : fr42 I I1) : fr42 I (uI I1 42 0 j x) := fun a b q => by rw [uI_tt q]; exact h a b q
theorem MC.fr {I I1 : SI} (h : MC I) (hf : frM I I1) : MC I1 := by
  unfold MC at h ⊢
  rw [hf 38 0 (by omega), hf 39 0 (by omega), hf 40 0 (by omega)]
  exact h
theorem MAY.fr {I I1 : SI} {ev : Nat} {N : NF} (h : MAY I ev N) (hf : fr42 I I1) : MAY I1 ev N := by
  unfold MAY at h ⊢
  rw [hf 41 0 (by decide)]
  exact h
theorem TRD.u {I : SI} {p j : Nat} {l : HS} {x : Int32} (h : TRD I p l) (hj : p ≤ j) : TRD (uI I 42 0 j x) p l := fun q hq => by
  rw [uI_j (by omega)]
  exact h q hq
theorem good_put {N : NF} {p c : Nat} {l : HS} (hg : GOOD N p l) (hp : p < 10) (hc : c < 13) (ha : agP N p c l = true) : GOOD N (p + 1) (put1 (trl l p) p c) := fun q hq => by
  have ek : ∀ q, q < p → put1 (trl l p) p c q = l q := fun q hq => by
    rw [put1_ne (by omega)]
    unfold trl
    rw [if_pos hq]
  by_cases e : q = p
  · subst e
    rw [put1_at, agP_congr hp ek]
    exact ⟨hc, ha⟩
  · rw [ek q (by omega), agP_congr (by omega) (fun j hj => ek j (by omega))]
    exact hg q (by omega)
section
variable (I : SI) (J : SJ) (ev d : Nat) (N : NF) (b : Bool) (X : List HS) (hC : MC I) (hM : MAY I ev N) (hE : I 29 0 6 = nI ev) (h2 : 2 ≤ ev) (h5 : ev ≤ 5) (hd : 2 < d)
def nxQ (I : SI) (J : SJ) (ev : Nat) (N : NF) (X : List HS) : Option AV → ST → Prop := fun v σ => ∃ I1, σ = S0 I1 J ∧ fr42 I I1 ∧ NX N (PRb 0 ev) X v I1
def at26 (I : SI) (J : SJ) (ev d : Nat) (N : NF) (b : Bool) (X : List HS) (p : Int32) (I1 : SI) : Prop := Sat none MX9_isNext d 117 (nxQ I J ev N X) 26 [some (vr 29 0), some (vi (bi b)), some (vi p)] [] (S0 I1 J)
def at40 (I : SI) (J : SJ) (ev d : Nat) (N : NF) (b : Bool) (X : List HS) (p : Nat) (I1 : SI) : Prop := Sat none MX9_isNext d 117 (nxQ I J ev N X) 40 [some (vr 29 0), some (vi (bi b)), some (vi (nI p))] [] (S0 I1 J)
theorem go26 {I : SI} {J : SJ} {ev d : Nat} {N : NF} {b : Bool} {X : List HS} {p c : Nat} {I1 : SI} (hp : p < 10) (hc : I1 42 0 p + 1 = nI c) (h : at40 I J ev d N b X p (uI I1 42 0 p (nI c))) : at26 I J ev d N b X (nI p) I1 := by
  have ep : (nI p).toNatClampNeg = p := nI_clamp (by omega)
  have h0 : ¬ nI p < 0 := by
    rw [Int32.not_lt]
    exact nI_le (a := 0) (b := p) (by omega) (by omega)
  refine Sat.of k_X9_isNext [26, 40, 72] 60 ?_
  refine ⟨fun q => absurd q h0, fun _ => ⟨vp_in_nI (by omega) (by decide), vp_in_nI (by omega) (by decide), ?_⟩⟩
  refine Sat.to h rfl ?_
  show (uI I1 42 0 (nI p).toNatClampNeg (I1 42 0 (nI p).toNatClampNeg + 1), J, 117, aT) = _
  rw [ep, hc]
theorem run40 {I : SI} {J : SJ} {ev d : Nat} {N : NF} {b : Bool} {X : List HS} (hC : MC I) (hM : MAY I ev N) (hE : I 29 0 6 = nI ev) (h2 : 2 ≤ ev) (h5 : ev ≤ 5) (hd : 2 < d) : ∀ (k m c p : Nat) (l : HS) (I2 : SI), p + k + 1 = PRb 0 ev → c + m = 13 → fr42 I I2 → TRD I2 p l → GOOD N p l → I2 42 0 p = nI c → rem N (PRb 0 ev) p c l = X →
    (brn N (PRb 0 ev) p l c = [] → ∀ I3, fr42 I I3 → TRD I3 p l → at26 I J ev d N b X (nI p + (-1)) I3) → at40 I J ev d N b X p I2 := by
  have p10 := PRb0_le ev (by omega)
  intro k
  induction k with
  | zero =>
    intro m
    induction m with
    | zero =>
      intro c p l I2 hp hc f1 f2 f3 f4 f5 f6
      have e : c = 13 := by omega
      subst e
      have ep : (nI p).toNatClampNeg = p := nI_clamp (by omega)
      refine Sat.of k_X9_isNext [26, 40] 60 ?_
      have c0 : (13 : Int32) ≤ I2 42 0 (nI p).toNatClampNeg := by rw [ep, f4]; exact nI_le (a := 13) (b := 13) (by omega) (by omega)
      refine ⟨vp_in_nI (by omega) (by decide), fun _ => ⟨vp_in_nI (by omega) (by decide), fun q => ?_, fun _ => ?_⟩, fun q => absurd c0 q⟩
      · have q : ¬ I2 42 0 (nI p).toNatClampNeg = nI 13 := q
        rw [ep] at q
        exact absurd f4 q
      · exact (f6 brn_end I2 f1 f2).to rfl rfl
    | succ m ih =>
      intro c p l I2 hp hc f1 f2 f3 f4 f5 f6
      have ep : (nI p).toNatClampNeg = p := nI_clamp (by omega)
      refine Sat.of k_X9_isNext [26, 40] 60 ?_
      refine ⟨vp_in_nI (by omega) (by decide), fun q => ?_, fun _ => ⟨2, 117, hd, Nat.le_refl _, (m_agrees I2 J ev p c N l (hC.fr f1.M) (hM.fr f1) h5 (by omega) f2 f4 (by omega) 2 (by decide)).mono ?_⟩⟩
      · have q : nI 13 ≤ I2 42 0 (nI p).toNatClampNeg := q
        rw [ep, f4, nI_leI (by decide) (by omega)] at q
        omega
      rintro v σ ⟨rfl, rfl⟩
      refine ⟨fun q => ?_, fun q => ?_⟩
      · have ha := bi_t q
        have hr := rem_step (N := N) (P := PRb 0 ev) (p := p) (l := l) (c := c) (by omega)
        rw [f5, if_pos ha, show PRb 0 ev - p - 1 = 0 by omega] at hr
        refine ⟨vp_in_nI (by omega) (by decide), fun _ => ⟨0, 117, by omega, Nat.le_refl _, (m_pairs I2 J ev (by rw [f1 29 0 (by decide)]; exact hE) h5 0).mono ?_⟩, fun q1 => ?_⟩
        · rintro v σ ⟨rfl, rfl⟩
          have ep1 : nI (PRb 0 ev) - 1 = nI p := by rw [nI_m1 (by omega), show PRb 0 ev - 1 = p by omega]
          refine ⟨fun q1 => ?_, fun _ => ⟨rfl, Or.inr rfl, I2, rfl, f1, ?_⟩⟩
          · have q1 : ¬ nI p = nI (PRb 0 ev) - 1 := q1
            rw [ep1] at q1
            exact absurd rfl q1
          · rw [hr]
            have ek : ∀ q, q < p → put1 (trl l p) p c q = l q := fun q hq => by
              rw [put1_ne (by omega)]
              unfold trl
              rw [if_pos hq]
            have hPp : PRb 0 ev - 1 = p := by omega
            refine ⟨rfl, fun q hq => ?_, ?_, ?_⟩
            · by_cases e : q = p
              · subst e
                rw [put1_at]
                exact ⟨f4, by omega⟩
              · rw [ek q (by omega)]
                exact f2 q (by omega)
            · have := good_put f3 (by omega) (by omega) ha
              rw [show p + 1 = PRb 0 ev by omega] at this
              exact this
            · rw [hPp, put1_at]
              exact rem_congr (by omega) ek
        · have q1 : I2 42 0 (nI p).toNatClampNeg = nI 13 := q1
          rw [ep, f4, nI_eq (by omega) (by decide)] at q1
          omega
      · have ha := bi_f q
        have hr := rem_step (N := N) (P := PRb 0 ev) (p := p) (l := l) (c := c) (by omega)
        have hb := brn_step (N := N) (P := PRb 0 ev) (p := p) (l := l) (c := c) (by omega)
        rw [f5, if_neg (by rw [ha]; decide)] at hr
        rw [if_neg (by rw [ha]; decide)] at hb
        refine ⟨vp_in_nI (by omega) (by decide), vp_in_nI (by omega) (by decide), ?_⟩
        refine (ih (c + 1) p l (uI I2 42 0 p (nI (c + 1))) hp (by omega) f1.u (f2.u (Nat.le_refl _)) f3 uI_at hr.symm (fun z => f6 (by rw [hb]; exact z))).to rfl ?_
        show (uI I2 42 0 (nI p).toNatClampNeg (I2 42 0 (nI p).toNatClampNeg + 1), J, 117, aT) = _
        rw [ep, f4, nI_1]
  | succ k ihk =>
    intro m
    induction m with
    | zero =>
      intro c p l I2 hp hc f1 f2 f3 f4 f5 f6
      have e : c = 13 := by omega
      subst e
      have ep : (nI p).toNatClampNeg = p := nI_clamp (by omega)
      refine Sat.of k_X9_isNext [26, 40] 60 ?_
      have c0 : (13 : Int32) ≤ I2 42 0 (nI p).toNatClampNeg := by rw [ep, f4]; exact nI_le (a := 13) (b := 13) (by omega) (by omega)
      refine ⟨vp_in_nI (by omega) (by decide), fun _ => ⟨vp_in_nI (by omega) (by decide), fun q => ?_, fun _ => ?_⟩, fun q => absurd c0 q⟩
      · have q : ¬ I2 42 0 (nI p).toNatClampNeg = nI 13 := q
        rw [ep] at q
        exact absurd f4 q
      · exact (f6 brn_end I2 f1 f2).to rfl rfl
    | succ m ih =>
      intro c p l I2 hp hc f1 f2 f3 f4 f5 f6
      have ep : (nI p).toNatClampNeg = p := nI_clamp (by omega)
      refine Sat.of k_X9_isNext [26, 40] 60 ?_
      refine ⟨vp_in_nI (by omega) (by decide), fun q => ?_, fun _ => ⟨2, 117, hd, Nat.le_refl _, (m_agrees I2 J ev p c N l (hC.fr f1.M) (hM.fr f1) h5 (by omega) f2 f4 (by omega) 2 (by decide)).mono ?_⟩⟩
      · have q : nI 13 ≤ I2 42 0 (nI p).toNatClampNeg := q
        rw [ep, f4, nI_leI (by decide) (by omega)] at q
        omega
      rintro v σ ⟨rfl, rfl⟩
      refine ⟨fun q => ?_, fun q => ?_⟩
      · have ha := bi_t q
        have hr := rem_step (N := N) (P := PRb 0 ev) (p := p) (l := l) (c := c) (by omega)
        have hb := brn_step (N := N) (P := PRb 0 ev) (p := p) (l := l) (c := c) (by omega)
        rw [f5, if_pos ha] at hr
        rw [if_pos ha] at hb
        generalize hh : put1 (trl l p) p c = h at hr hb
        have ek : ∀ q, q < p → h q = l q := fun q hq => by
          rw [← hh, put1_ne (by omega)]
          unfold trl
          rw [if_pos hq]
        have ehp : h p = c := by rw [← hh, put1_at]
        have hbr : ext N (PRb 0 ev - p - 1) (p + 1) h = brn N (PRb 0 ev) (p + 1) h 0 := by
          rw [← ext_brn (by omega) p10 (by rw [← hh]; exact trl_self), show PRb 0 ev - (p + 1) = PRb 0 ev - p - 1 by omega]
        refine ⟨vp_in_nI (by omega) (by decide), fun _ => ⟨0, 117, by omega, Nat.le_refl _, (m_pairs I2 J ev (by rw [f1 29 0 (by decide)]; exact hE) h5 0).mono ?_⟩, fun q1 => ?_⟩
        · rintro v σ ⟨rfl, rfl⟩
          have ep1 : nI (PRb 0 ev) - 1 = nI (PRb 0 ev - 1) := nI_m1 (by omega)
          refine ⟨fun _ => ⟨?_, ?_⟩, fun q1 => ?_⟩
          · show vp_in (nI p + 1) 10
            rw [nI_1]
            exact vp_in_nI (by omega) (by decide)
          · have hg := good_put f3 (by omega) (by omega) ha
            rw [hh] at hg
            have hT : ∀ x, TRD (uI I2 42 0 (p + 1) x) (p + 1) h := fun x q hq => by
              rw [uI_j (by omega)]
              by_cases e : q = p
              · subst e
                rw [ehp]
                exact ⟨f4, by omega⟩
              · rw [ek q (by omega)]
                exact f2 q (by omega)
            have hnext : at40 I J ev d N b X (p + 1) (uI (uI I2 42 0 (p + 1) (-1)) 42 0 (p + 1) (nI 0)) := by
              refine ihk 13 0 (p + 1) h _ (by omega) (by omega) f1.u.u ((hT (-1)).u (Nat.le_refl _)) hg uI_at ?_ (fun z I3 g1 g2 => ?_)
              · rw [hr]
                simp only [rem]
                rw [← hbr, ehp, rem_congr (by omega) ek]
              · have e1 : nI (p + 1) + (-1) = nI p := pk_m1 p
                rw [e1]
                have hIp := (g2 p (by omega)).1
                rw [ehp] at hIp
                refine go26 (by omega) (c := c + 1) (by rw [hIp, nI_1]) ?_
                refine ih (c + 1) p l (uI I3 42 0 p (nI (c + 1))) hp (by omega) g1.u (fun q hq => ?_) f3 uI_at ?_ (fun z2 => f6 ?_)
                · rw [uI_j (by omega), ← ek q hq]
                  exact g2 q (by omega)
                · rw [hr, hbr, z]
                  rfl
                · rw [hb, hbr, z, z2]
                  rfl
            refine Sat.to (go26 (I1 := uI I2 42 0 (p + 1) (-1)) (c := 0) (by omega) (by rw [uI_at]; rfl) hnext) ?_ ?_
            · rw [← nI_1]
              rfl
            · show (uI I2 42 0 (nI p + 1).toNatClampNeg (-1), J, 117, aT) = _
              rw [nI_1, nI_clamp (by omega)]
          · have q1 : nI p = nI (PRb 0 ev) - 1 := q1
            rw [ep1, nI_eq (by omega) (by omega)] at q1
            omega
        · have q1 : I2 42 0 (nI p).toNatClampNeg = nI 13 := q1
          rw [ep, f4, nI_eq (by omega) (by decide)] at q1
          omega
      · have ha := bi_f q
        have hr := rem_step (N := N) (P := PRb 0 ev) (p := p) (l := l) (c := c) (by omega)
        have hb := brn_step (N := N) (P := PRb 0 ev) (p := p) (l := l) (c := c) (by omega)
        rw [f5, if_neg (by rw [ha]; decide)] at hr
        rw [if_neg (by rw [ha]; decide)] at hb
        refine ⟨vp_in_nI (by omega) (by decide), vp_in_nI (by omega) (by decide), ?_⟩
        refine (ih (c + 1) p l (uI I2 42 0 p (nI (c + 1))) hp (by omega) f1.u (f2.u (Nat.le_refl _)) f3 uI_at hr.symm (fun z => f6 (by rw [hb]; exact z))).to rfl ?_
        show (uI I2 42 0 (nI p).toNatClampNeg (I2 42 0 (nI p).toNatClampNeg + 1), J, 117, aT) = _
        rw [ep, f4, nI_1]
theorem all40 {I : SI} {J : SJ} {ev d : Nat} {N : NF} {b : Bool} {X : List HS} (hC : MC I) (hM : MAY I ev N) (hE : I 29 0 6 = nI ev) (h2 : 2 ≤ ev) (h5 : ev ≤ 5) (hd : 2 < d) : ∀ (p c : Nat) (l : HS) (I2 : SI), p < PRb 0 ev → c ≤ 13 → fr42 I I2 → TRD I2 p l → GOOD N p l → I2 42 0 p = nI c → rem N (PRb 0 ev) p c l = X → at40 I J ev d N b X p I2 := by
  have p10 := PRb0_le ev (by omega)
  intro p
  induction p with
  | zero =>
    intro c l I2 hp hc f1 f2 f3 f4 f5
    refine run40 hC hM hE h2 h5 hd (PRb 0 ev - 1) (13 - c) c 0 l I2 (by omega) (by omega) f1 f2 f3 f4 f5 (fun z I3 g1 g2 => ?_)
    refine Sat.of k_X9_isNext [26, 40] 60 ?_
    refine ⟨fun _ => ⟨rfl, Or.inl rfl, I3, rfl, g1, ?_⟩, fun q => absurd (show (nI 0 + (-1) : Int32) < 0 by decide) q⟩
    have : X = [] := by rw [← f5]; exact z
    rw [this]
    exact rfl
  | succ p ih =>
    intro c l I2 hp hc f1 f2 f3 f4 f5
    refine run40 hC hM hE h2 h5 hd (PRb 0 ev - 1 - (p + 1)) (13 - c) c (p + 1) l I2 (by omega) (by omega) f1 f2 f3 f4 f5 (fun z I3 g1 g2 => ?_)
    have e1 : nI (p + 1) + (-1) = nI p := pk_m1 p
    rw [e1]
    obtain ⟨w1, w2⟩ := g2 p (by omega)
    refine go26 (by omega) (c := l p + 1) (by rw [w1, nI_1]) ?_
    refine ih (l p + 1) l _ (by omega) (by omega) g1.u (fun q hq => ?_) (fun q hq => f3 q (by omega)) uI_at ?_
    · rw [uI_j (by omega)]
      exact g2 q (by omega)
    · rw [← f5]
      simp only [rem]
      rw [z]
      rfl
end
theorem PRb_pos : ∀ ev, 2 ≤ ev → ev < 6 → 0 < PRb 0 ev := by
  intro ev h1 h2
  have : ∀ ev, ev < 6 → 2 ≤ ev → 0 < PRb 0 ev := by decide +kernel
  exact this ev h2 h1
set_option maxRecDepth 10000 in
theorem m_first (I : SI) (J : SJ) (ev : Nat) (N : NF) (hC : MC I) (hM : MAY I ev N) (hE : I 29 0 6 = nI ev) (h2 : 2 ≤ ev) (h5 : ev ≤ 5) (d : Nat) (hd : 2 < d) : Tri d YX9_isNext 117 [vr 29 0, vi 1] (S0 I J) (fun v σ => ∃ I1, σ = S0 I1 J ∧ fr42 I I1 ∧ NX N (PRb 0 ev) (sols ev N) v I1) := by
  refine Tri.of (M := MX9_isNext) k_X9_isNext ⟨Nat.le_refl _, Nat.le_refl _⟩ (Nat.le_of_ble_eq_true rfl) ?_
  have pp := PRb_pos ev h2 (by omega)
  have p10 := PRb0_le ev (by omega)
  have h1 : at40 I J ev d N true (sols ev N) 0 (uI (uI I 42 0 0 (-1)) 42 0 0 (nI 0)) := by
    refine all40 hC hM hE h2 h5 hd 0 0 h00 _ pp (by omega) (fr42.u (fr42.u (fun _ _ _ => rfl))) (fun q hq => absurd hq (by omega)) (fun q hq => absurd hq (by omega)) uI_at ?_
    simp only [rem]
    rw [← ext_brn pp p10 (by funext q; unfold trl h00; rw [if_neg (by omega)])]
    rfl
  refine Sat.of k_X9_isNext [26] 60 ?_
  refine ⟨fun q => absurd q (by decide), fun _ => ⟨fun q => absurd q (by decide), fun _ => ⟨vp_in_nI (n := 0) (by decide) (by decide), ?_⟩⟩⟩
  exact Sat.to (go26 (I1 := uI I 42 0 0 (-1)) (by decide) (c := 0) (by rw [uI_at]; rfl) h1) rfl rfl
set_option maxRecDepth 10000 in
theorem m_more (I : SI) (J : SJ) (ev : Nat) (N : NF) (h : HS) (X : List HS) (hC : MC I) (hM : MAY I ev N) (hE : I 29 0 6 = nI ev) (h2 : 2 ≤ ev) (h5 : ev ≤ 5) (hT : TRD I (PRb 0 ev) h) (hG : GOOD N (PRb 0 ev) h) (hX : rem N (PRb 0 ev) (PRb 0 ev - 1) (h (PRb 0 ev - 1) + 1) h = X) (d : Nat) (hd : 2 < d) : Tri d YX9_isNext 117 [vr 29 0, vi 0] (S0 I J) (fun v σ => ∃ I1, σ = S0 I1 J ∧ fr42 I I1 ∧ NX N (PRb 0 ev) X v I1) := by
  refine Tri.of (M := MX9_isNext) k_X9_isNext ⟨Nat.le_refl _, Nat.le_refl _⟩ (Nat.le_of_ble_eq_true rfl) ?_
  have pp := PRb_pos ev h2 (by omega)
  have p10 := PRb0_le ev (by omega)
  obtain ⟨w1, w2⟩ := hT (PRb 0 ev - 1) (by omega)
  have h1 : at40 I J ev d N false X (PRb 0 ev - 1) (uI I 42 0 (PRb 0 ev - 1) (nI (h (PRb 0 ev - 1) + 1))) := by
    refine all40 hC hM hE h2 h5 hd (PRb 0 ev - 1) (h (PRb 0 ev - 1) + 1) h _ (by omega) (by omega) (fr42.u (fun _ _ _ => rfl)) (fun q hq => ?_) (fun q hq => hG q (by omega)) uI_at hX
    rw [uI_j (by omega)]
    exact hT q (by omega)
  refine Sat.of k_X9_isNext [26] 60 ?_
  refine ⟨fun _ => ⟨0, 117, by omega, Nat.le_refl _, (m_pairs I J ev hE h5 0).mono ?_⟩, fun q => absurd rfl q⟩
  rintro v σ ⟨rfl, rfl⟩
  refine ⟨fun _ => ?_, fun q => absurd rfl q⟩
  refine Sat.to (go26 (I1 := I) (p := PRb 0 ev - 1) (by omega) (c := h (PRb 0 ev - 1) + 1) (by rw [w1, nI_1]) h1) ?_ rfl
  rw [← nI_m1 (by omega)]
  rfl
