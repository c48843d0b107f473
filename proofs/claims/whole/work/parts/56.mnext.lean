/-! The model: the next history -/
def TRD (I : SI) (p : Nat) (l : HS) : Prop := ∀ q, q < p → I 42 0 q = nI (l q) ∧ l q < 13
theorem TT_k (r s : Nat) (hr : r < 13) (hs : s < 13) : (13 * r + s) / 13 = r ∧ (13 * r + s) % 13 = s := by omega
set_option maxRecDepth 10000 in
theorem m_agrees (I : SI) (J : SJ) (ev p r : Nat) (N : NF) (l : HS) (hC : MC I) (hM : MAY I ev N) (h5 : ev ≤ 5) (hp : p < PRb 0 ev) (hT : TRD I p l) (hr : I 42 0 p = nI r) (hr13 : r < 13) (d : Nat) (hd : 1 < d) : Tri d YX9_agrees 117 [vr 29 0, vi (nI p)] (S0 I J) (fun v σ => σ = S0 I J ∧ v = some (vi (bi (agP N p r l)))) := by
  refine Tri.of (M := MX9_agrees) k_X9_agrees ⟨Nat.le_refl _, Nat.le_refl _⟩ (Nat.le_of_ble_eq_true rfl) ?_
  have p10 := PRb0_le ev (by omega)
  obtain ⟨t1, t2, t3⟩ := lohi_t p (by omega)
  obtain ⟨m1, m2⟩ := hM p hp
  have ep : (nI p).toNatClampNeg = p := nI_clamp (by omega)
  generalize hQ : (fun (v : Option AV) (σ : ST) => σ = S0 I J ∧ v = some (vi (bi (agP N p r l)))) = Q
  generalize hf : (fun z => (TT (l (PRb z (loT p))) r).testBit (l (PRb z (hiT p)))) = f
  have eA : agP N p r l = ((N (loT p) (hiT p)).testBit r && allN (loT p) f) := by rw [← hf]; rfl
  generalize hb0 : (N (loT p) (hiT p)).testBit r = b0 at eA
  have loop : ∀ (m z : Nat) (v : Option AV), z + m = loT p → Sat none MX9_agrees d 117 Q 39 [some (vr 29 0), some (vi (nI p)), some (vi (nI (hiT p))), some (vi (nI (loT p))), some (vi (bi (b0 && allN z f))), some (vi (nI z)), v] [] (S0 I J) := by
    intro m
    induction m with
    | zero =>
      intro z v hz
      have e : z = loT p := by omega
      subst e
      refine Sat.of k_X9_agrees [34, 39, 103] 60 ?_
      refine ⟨fun c => ⟨rfl, ?_, ?_⟩, fun c => absurd (nI_le (Nat.le_refl _) (by omega)) c⟩
      · exact bi_01 _
      · rw [← hQ, eA]
        exact ⟨rfl, rfl⟩
    | succ m ih =>
      intro z v hz
      refine Sat.of k_X9_agrees [34, 39, 103] 60 ?_
      refine ⟨fun c => absurd ((nI_leI (a := loT p) (by omega) (by omega)).mp c) (by omega), fun c => ⟨fun c1 => ⟨rfl, bi_01 _, ?_⟩, fun c1 => ⟨0, 117, by omega, Nat.le_refl _, (m_pairOf I J z (loT p) (by omega) (by omega) 0).mono ?_⟩⟩⟩
      · have c1 : bi (b0 && allN z f) = 0 := c1
        rw [← hQ, eA, c1]
        have h1 := bi_f c1
        have h2 : (b0 && allN (loT p) f) = false := by
          cases h3 : (b0 && allN (loT p) f) with
          | false => rfl
          | true =>
            rw [Bool.and_eq_true] at h3
            have h4 : allN z f = true := allN_t.mpr (fun i hi => (allN_t.mp h3.2) i (by omega))
            rw [h3.1, h4] at h1
            exact h1
        rw [h2]
        exact ⟨rfl, rfl⟩
      · have c1 : ¬ bi (b0 && allN z f) = 0 := c1
        have hb := bi_t c1
        have q1 := prb_lt1 (hiT p) t2 (loT p) t1 z (by omega)
        have q2 := prb_lt2 (x := loT p) (y := hiT p) (z := z) (by omega)
        rw [t3] at q1 q2
        obtain ⟨w1, w2⟩ := hT _ q1
        obtain ⟨w3, w4⟩ := hT _ q2
        have ez1 : (nI (PRb z (loT p))).toNatClampNeg = PRb z (loT p) := nI_clamp (by omega)
        have ez2 : (nI (PRb z (hiT p))).toNatClampNeg = PRb z (hiT p) := nI_clamp (by omega)
        have hix : (13 : Int32) * I 42 0 (nI (PRb z (loT p))).toNatClampNeg + I 42 0 (nI p).toNatClampNeg = nI (13 * l (PRb z (loT p)) + r) := by
          rw [ez1, w1, ep, hr, show (13 : Int32) = nI 13 from rfl, pk_mul, nI_add]
        obtain ⟨k1, k2⟩ := TT_k (l (PRb z (loT p))) r w2 hr13
        have hlt : 13 * l (PRb z (loT p)) + r < 169 := by omega
        have htab : I 40 0 (nI (13 * l (PRb z (loT p)) + r)).toNatClampNeg = nI (TT (l (PRb z (loT p))) r) := by
          rw [nI_clamp (by omega), hC.2.2 _ hlt, k1, k2]
        have htl : TT (l (PRb z (loT p))) r < 2 ^ 13 := TT_lt
        rintro v1 σ ⟨rfl, rfl⟩
        refine ⟨vp_in_nI (by omega) (by decide), vp_in_nI (by omega) (by decide), ?_, 0, 117, by omega, Nat.le_refl _, (m_pairOf I J z (hiT p) (by omega) t2 0).mono ?_⟩
        · show vp_in (13 * I 42 0 (nI (PRb z (loT p))).toNatClampNeg + I 42 0 (nI p).toNatClampNeg) 169
          rw [hix]
          exact vp_in_nI hlt (by decide)
        · rintro v1 σ ⟨rfl, rfl⟩
          have hbit : (I 40 0 (13 * I 42 0 (nI (PRb z (loT p))).toNatClampNeg + I 42 0 (nI p).toNatClampNeg).toNatClampNeg >>> (I 42 0 (nI (PRb z (hiT p))).toNatClampNeg &&& 31)) &&& 1 = bi (f z) := by
            rw [hix, htab, ez2, w3, nx_bit (by omega) (by omega), ← hf]
          have s103 : ∀ (b : Bool) (w : Int32), b = f z → Sat none MX9_agrees d 117 Q 103 [some (vr 29 0), some (vi (nI p)), some (vi (nI (hiT p))), some (vi (nI (loT p))), some (vi (bi (b0 && allN z f))), some (vi (nI z)), some (vi w)] [vi (bi b)] (S0 I J) := fun b w hb1 => by
            refine Sat.of k_X9_agrees [39] 60 ?_
            refine (ih (z + 1) (some (vi w)) (by omega)).to ?_ rfl
            have : (b0 && allN (z + 1) f) = b := by
              simp only [allN]
              rw [← Bool.and_assoc, hb, Bool.true_and, hb1]
            rw [this, ← nI_1]
            rfl
          refine ⟨vp_in_nI (by omega) (by decide), fun c2 => s103 false _ ?_, fun c2 => s103 true _ ?_⟩
          · have c2 : ¬ (I 40 0 (13 * I 42 0 (nI (PRb z (loT p))).toNatClampNeg + I 42 0 (nI p).toNatClampNeg).toNatClampNeg >>> (I 42 0 (nI (PRb z (hiT p))).toNatClampNeg &&& 31)) &&& 1 = 1 := c2
            rw [hbit] at c2
            cases hz1 : f z with
            | false => rfl
            | true => rw [hz1] at c2; exact absurd rfl c2
          · have c2 : (I 40 0 (13 * I 42 0 (nI (PRb z (loT p))).toNatClampNeg + I 42 0 (nI p).toNatClampNeg).toNatClampNeg >>> (I 42 0 (nI (PRb z (hiT p))).toNatClampNeg &&& 31)) &&& 1 = 1 := c2
            rw [hbit] at c2
            exact (bi_t (by rw [c2]; decide)).symm
  have s34 : ∀ b : Bool, b = b0 → Sat none MX9_agrees d 117 Q 34 [some (vr 29 0), some (vi (nI p)), some (vi (nI (hiT p))), some (vi (nI (loT p))), none, none, none] [vi (bi b)] (S0 I J) := fun b hb => by
    subst hb
    refine Sat.of k_X9_agrees [39] 60 ?_
    refine (loop (loT p) 0 none (by omega)).to ?_ rfl
    simp only [allN, Bool.and_true]
    rfl
  have hbit : (I 41 0 (nI p).toNatClampNeg >>> (I 42 0 (nI p).toNatClampNeg &&& 31)) &&& 1 = bi b0 := by
    rw [ep, m1, hr, nx_bit (by omega) (by omega), hb0]
  refine Sat.of k_X9_agrees [34] 60 ?_
  refine ⟨0, 117, by omega, Nat.le_refl _, (m_highOf I J p (by omega) 0).mono ?_⟩
  rintro v σ ⟨rfl, rfl⟩
  refine ⟨1, 117, hd, Nat.le_refl _, (m_lowOf I J p (by omega) 1 (by decide)).mono ?_⟩
  rintro v σ ⟨rfl, rfl⟩
  refine ⟨vp_in_nI (by omega) (by decide), vp_in_nI (by omega) (by decide), fun c => s34 false ?_, fun c => s34 true ?_⟩
  · have c : ¬ (I 41 0 (nI p).toNatClampNeg >>> (I 42 0 (nI p).toNatClampNeg &&& 31)) &&& 1 = 1 := c
    rw [hbit] at c
    cases hz1 : b0 with
    | false => rfl
    | true => rw [hz1] at c; exact absurd rfl c
  · have c : (I 41 0 (nI p).toNatClampNeg >>> (I 42 0 (nI p).toNatClampNeg &&& 31)) &&& 1 = 1 := c
    rw [hbit] at c
    exact (bi_t (by rw [c]; decide)).symm
