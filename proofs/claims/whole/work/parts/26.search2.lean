/-! The line: search, its contract -/
theorem GOOD.put {N : NF} {p r : Nat} {l : HS} (h : GOOD N p l) (hp : p < 10) (hr : r < 13) (e : agP N p r l = true) : GOOD N (p + 1) (put1 l p r) := fun q hq => by
  have ek : ∀ q, q < p → put1 l p r q = l q := fun q hq => put1_ne (by omega)
  by_cases eq : q = p
  · subst eq
    rw [put1_at, agP_congr (by omega) ek]
    exact ⟨hr, e⟩
  · rw [ek q (by omega), agP_congr (by omega) (fun j hj => ek j (by omega))]
    exact h q (by omega)
set_option maxRecDepth 20000 in
set_option maxHeartbeats 1000000 in
theorem c_search (m ev w : Nat) (N : NF) (h2 : 2 ≤ ev) (h5 : ev ≤ 5) (hw : w ≤ tlen 14 m) : ∀ (M : Nat) (I : SI) (J : SJ) (y x p : Nat) (S : NF) (B E : Nat → Nat) (l : HS) (b1 b2 e1 e2 : Nat) (H : List HS) (d : Nat), M = (PRb 0 ev - p) + (ev - y) → p = PRb x y → x ≤ y → y ≤ ev → (y = ev → x = 0) → PRE I m ev N S B E l y p → LST I J m ev H → H.length < w → I 8 m 7 = nI w → IV x B E (fun z => zb (l (PRb z y))) b1 b2 → IV x B E (fun z => ze (l (PRb z y))) e1 e2 → b1 ≤ b2 → e1 ≤ e2 → M + 3 ≤ d → Tri d YX3_search 117 [vr 8 m, vi (nI y), vi (nI x), vi (nI b1), vi (nI b2), vi (nI e1), vi (nI e2)] (S0 I J) (SQ m ev w y p I J (H ++ ext N (PRb 0 ev - p) p l)) := by
  have t300 := tlen_14 m
  have p10 := PRb0_le ev (by omega)
  intro M
  induction M with
  | zero =>
    intro I J y x p S B E l b1 b2 e1 e2 H d hM hp hxy hye hyx hP hH hHw hw7 hb he hbb hee hd
    have ey : y = ev := by omega
    subst ey
    have ex := hyx rfl
    subst ex
    subst hp
    obtain ⟨g1, g2, g3, g4, g5, g6, g7, g8⟩ := hP
    refine Tri.of (M := MX3_search) k_X3_search ⟨Nat.le_refl _, Nat.le_refl _⟩ (Nat.le_of_ble_eq_true rfl) ?_
    refine Sat.of k_X3_search [104] 60 ?_
    refine ⟨fun c => ⟨1, 117, by omega, Nat.le_refl _, (c_write I J m y H l B E hH (by omega) g2 h2 h5 (fun q hq => ⟨g6 q hq, (g7 q hq).1⟩) (g4.mono (Nat.pow_pos (by decide))) g5 g3 1 (by decide)).mono ?_⟩, fun c => ?_⟩
    · rintro r σ ⟨rfl, I1, J1, rfl, k1, k2, k3, k4, k5⟩
      have eR : H ++ ext N (PRb 0 y - PRb 0 y) (PRb 0 y) l = H ++ [l] := by rw [Nat.sub_self]; rfl
      have eL : (H ++ [l]).length = H.length + 1 := by rw [List.length_append]; rfl
      have kp : KEEP m y (PRb 0 y) I I1 J J1 := ⟨fun t k hk => k2 t k (fun q => hk ⟨by omega, by omega, Or.inl q.1⟩), k3, fun z hz => ⟨by rw [k2 11 m (by omega)], by rw [k2 12 m (by omega)]⟩, fun q hq => by rw [k2 13 m (by omega)], fun w hw h5 => k2 10 _ (by omega), k5⟩
      have hl1 : I1 8 m 6 = nI (H.length + 1) := by rw [k1.1, eL]
      rw [eR]
      refine ⟨fun c1 => ⟨rfl, Or.inl rfl, I1, J1, ?_, rfl, by rw [take_all (by omega)]; exact k1, kp⟩, fun c1 => ⟨rfl, Or.inr rfl, I1, J1, ?_, rfl, by rw [take_all (by omega)]; exact k1, kp⟩⟩
      · have c1 : I1 8 m 6 < I1 8 m 7 := c1
        rw [hl1, k3, hw7, nI_ltI (by omega) (by omega)] at c1
        rw [eL, decide_eq_false (by omega)]
        rfl
      · have c1 : ¬ I1 8 m 6 < I1 8 m 7 := c1
        rw [hl1, k3, hw7, nI_ltI (by omega) (by omega)] at c1
        rw [eL, decide_eq_true (by omega)]
        rfl
    · have c : ¬ I 16 (2 * m + 1) 2 ≤ nI y := c
      rw [g2] at c
      exact absurd (nI_le (a := y) (b := y) (Nat.le_refl _) (by omega)) c
  | succ M ih =>
    intro I J y x p S B E l b1 b2 e1 e2 H d hM hp hxy hye hyx hP hH hHw hw7 hb he hbb hee hd
    have hylt : y < ev := by
      rcases Nat.lt_or_ge y ev with q | q
      · exact q
      · have ey : y = ev := by omega
        have ex := hyx ey
        subst ex
        subst ey
        subst hp
        omega
    have hP0 := hP
    obtain ⟨g1, g2, g3, g4, g5, g6, g7, g8⟩ := hP
    obtain ⟨gr, gs⟩ := g8 hylt
    obtain ⟨w1, w2, w3, w4, w5⟩ := pow3 y (by omega)
    have lB := (hb.1 b1).mp (Nat.le_refl _)
    have uB := (hb.2 b2).mp (Nat.le_refl _)
    have lE := (he.1 e1).mp (Nat.le_refl _)
    have uE := (he.2 e2).mp (Nat.le_refl _)
    refine Tri.of (M := MX3_search) k_X3_search ⟨Nat.le_refl _, Nat.le_refl _⟩ (Nat.le_of_ble_eq_true rfl) ?_
    have ey : (nI y).toNatClampNeg = y := nI_clamp (by omega)
    by_cases hx : x = y
    · subst hx
      have hp1 : p = PRb 0 (x + 1) := by rw [hp]; exact prb_yy x (by omega)
      have hpP : p ≤ PRb 0 ev := by
        rw [hp]
        rcases Nat.lt_or_ge (x + 1) ev with q | q
        · exact Nat.le_of_lt (by rw [prb_yy x (by omega)]; exact Nat.lt_of_le_of_lt (by unfold PRb; omega) (pr0_lt ev (by omega) (x + 1) q 0 (by omega)))
        · rw [prb_yy x (by omega), show x + 1 = ev by omega]
          exact Nat.le_refl _
      have hl13 : ∀ z, z < x → l (PRb z x) < 13 := fun z hz => (g7 _ (by rw [hp]; exact prb_lt2 hz)).1
      obtain ⟨pl1, pl2⟩ := place_ok (g := 3 ^ (4 - x)) (by rw [← w1]; exact g4) w2 (by omega) hl13 hb he hbb hee
      have plB1 := pl1.1 _ ⟨x, by omega, Or.inl put1_at.symm⟩
      have plE1 := pl1.1 _ ⟨x, by omega, Or.inr put1_at.symm⟩
      refine Sat.of k_X3_search [104] 60 ?_
      refine ⟨fun c => ?_, fun c => ⟨fun c1 => ⟨fun c2 => absurd ((nI_ltI (by omega) (by omega)).mp c2) (by omega), fun c2 => ⟨0, 117, by omega, Nat.le_refl _, (c_place I J m x b1 b2 e1 e2 (by omega) lB.1 hbb uB.1 lE.1 hee uE.1 0).mono ?_⟩⟩, fun c1 => absurd (show nI x < nI 5 from nI_lt (by omega) (by decide)) c1⟩⟩
      · have c : I 16 (2 * m + 1) 2 ≤ nI x := c
        rw [g2] at c
        exact absurd ((nI_leI (by omega) (by omega)).mp c) (by omega)
      · rintro r σ ⟨rfl, rfl⟩
        generalize hI1 : uI (uI I 11 m x (nI (plB b1 b2 e1))) 12 m x (nI (plE b1 b2 e1 e2)) = I1
        have f11 : ∀ z, z ≠ x → I1 11 m z = I 11 m z := fun z hz => by rw [← hI1, uI_t (by decide), uI_j hz]
        have f12 : ∀ z, z ≠ x → I1 12 m z = I 12 m z := fun z hz => by rw [← hI1, uI_j hz, uI_t (by decide)]
        have ft : ∀ t k, ¬ ((t = 11 ∨ t = 12) ∧ k = m) → I1 t k = I t k := fun t k hk => by
          rw [← hI1, uI_ne (fun q => hk (by cases q; exact ⟨Or.inr rfl, rfl⟩)), uI_ne (fun q => hk (by cases q; exact ⟨Or.inl rfl, rfl⟩))]
        have at11 : I1 11 m x = nI (plB b1 b2 e1) := by rw [← hI1, uI_t (by decide), uI_at]
        have at12 : I1 12 m x = nI (plE b1 b2 e1 e2) := by rw [← hI1, uI_at]
        have hA1 : ALG I1 := by
          unfold ALG at g1 ⊢
          rw [ft 1 0 (by omega), ft 2 0 (by omega)]
          exact g1
        have kp1 : KEEP m x p I I1 J J := ⟨fun t k hk => ft t k (fun q => hk ⟨by omega, by omega, Or.inl q.2⟩), by rw [ft 8 m (by omega)], fun z hz => ⟨f11 z (by omega), f12 z (by omega)⟩, fun q hq => by rw [ft 13 m (by omega)], fun w hw h5 => ft 10 _ (by omega), fun _ _ => rfl⟩
        have hH1 : LST I1 J m ev H := by
          obtain ⟨q1, q2, q3, q4⟩ := hH
          refine ⟨by rw [ft 8 m (by omega)]; exact q1, q2, q3, fun q => ?_⟩
          unfold TMS
          rw [ft 15 m (by omega)]
          exact q4 q
        have hR1 : ROW I1 (5 * m + x) ev S := by
          unfold ROW
          rw [ft 10 _ (by omega)]
          exact gr
        refine ⟨2, 117, by omega, Nat.le_refl _, (c_leavesRoom I1 J m ev x p N S l hA1 (by rw [ft 16 _ (by omega)]; exact g2) h5 hylt hR1 gs hp1 (fun z hz => by rw [ft 13 m (by omega)]; exact ⟨g6 _ (by rw [hp]; exact prb_lt2 hz), hl13 z hz⟩) 2 (by decide)).mono ?_⟩
        rintro r σ ⟨b, I2, rfl, rfl, k0, k1, k2, k3⟩
        have kp2 : KEEP m x p I1 I2 J J := ⟨fun t k hk => by
          rcases k0 with k0 | k0
          · exact k1 t k (fun q => hk ⟨by omega, by omega, Or.inr ⟨q.1, by omega⟩⟩)
          · rw [k0], by rw [k1 8 m (by omega)], fun z hz => ⟨by rw [k1 11 m (by omega)], by rw [k1 12 m (by omega)]⟩, fun q hq => by rw [k1 13 m (by omega)], fun w hw h5 => k1 10 _ (by omega), fun _ _ => rfl⟩
        have hH2 : LST I2 J m ev H := by
          obtain ⟨q1, q2, q3, q4⟩ := hH1
          refine ⟨by rw [k1 8 m (by omega)]; exact q1, q2, q3, fun q => ?_⟩
          unfold TMS
          rw [k1 15 m (by omega)]
          exact q4 q
        refine ⟨fun c3 => ?_, fun c3 => ?_⟩
        · have eb := bi_f c3
          have en : ext N (PRb 0 ev - p) p l = [] := ext_nil (P := PRb 0 ev) p10 (by omega) g7 (k3 eb)
          rw [en, List.append_nil]
          refine ⟨rfl, Or.inl rfl, I2, J, ?_, rfl, by rw [take_all (by omega)]; exact hH2, kp1.tr kp2⟩
          rw [decide_eq_false (by omega)]
          rfl
        · have eb := bi_t c3
          have hrow : x + 1 < ev → ∃ S1, ROW I2 (5 * m + (x + 1)) ev S1 ∧ SG N ev l p S1 (x + 1) := k2 eb
          have hS1 : ∃ S1, x + 1 < ev → ROW I2 (5 * m + (x + 1)) ev S1 ∧ SG N ev l p S1 (x + 1) := by
            by_cases q : x + 1 < ev
            · obtain ⟨S1, s1⟩ := hrow q
              exact ⟨S1, fun _ => s1⟩
            · exact ⟨S, fun q1 => absurd q1 q⟩
          obtain ⟨S1, hS1⟩ := hS1
          have hP2 : PRE I2 m ev N S1 (put1 B x (plB b1 b2 e1)) (put1 E x (plE b1 b2 e1 e2)) l (x + 1) p := by
            refine ⟨hA1.frR k1, by rw [k1 16 _ (by omega), ft 16 _ (by omega)]; exact g2, fun z hz => ?_, by rw [w5]; exact pl1, fun z v hzv hv => ?_, fun q hq => by rw [k1 13 m (by omega), ft 13 m (by omega)]; exact g6 q hq, g7, hS1⟩
            · rw [k1 11 m (by omega), k1 12 m (by omega)]
              by_cases ez : z = x
              · subst ez
                rw [put1_at, put1_at] at *
                exact ⟨at11, at12, by omega, by omega, by omega, by omega⟩
              · rw [put1_ne ez, put1_ne ez, f11 z ez, f12 z ez]
                exact g3 z (by omega)
            · by_cases ev1 : v = x
              · subst ev1
                rw [put1_at, put1_at, put1_ne (by omega), put1_ne (by omega)]
                exact pl2 z hzv
              · rw [put1_ne ev1, put1_ne ev1, put1_ne (by omega), put1_ne (by omega)]
                exact g5 z v hzv (by omega)
          refine ⟨M + 3, 117, by omega, Nat.le_refl _, (ih I2 J (x + 1) 0 p S1 (put1 B x (plB b1 b2 e1)) (put1 E x (plE b1 b2 e1 e2)) l 1 242 1 242 H (M + 3) (by omega) hp1 (by omega) (by omega) (fun _ => rfl) hP2 hH2 hHw (by rw [k1 8 m (by omega), ft 8 m (by omega)]; exact hw7) IV.zero IV.zero (by decide) (by decide) (Nat.le_refl _)).to (by rw [← nI_1]; rfl) rfl ?_⟩
          rintro r σ ⟨I3, J3, rfl, rfl, m1, m2⟩
          have kp3 := (kp1.tr kp2).tr (m2.less (by omega) (Nat.le_refl _))
          refine ⟨fun c4 => ⟨rfl, Or.inl rfl, I3, J3, ?_, rfl, m1, kp3⟩, fun c4 => ⟨rfl, Or.inr rfl, I3, J3, ?_, rfl, m1, kp3⟩⟩
          · rw [bi_f c4]
            rfl
          · rw [bi_t c4]
            rfl
    · have hxlt : x < y := by omega
      have hp9 : p < PRb 0 ev := by rw [hp]; exact pr0_lt ev (by omega) y hylt x hxlt
      have hp2 : PRb (x + 1) y = p + 1 := by rw [hp]; exact prb_s
      obtain ⟨lo1, hi1⟩ := lohi_of y (by omega) x hxlt
      have exy : (nI x * 5 + nI y).toNatClampNeg = 5 * x + y := by rw [ix5, nI_clamp (by omega)]
      obtain ⟨k9, hk9⟩ : ∃ k9, PRb 0 ev - p = k9 + 1 := ⟨PRb 0 ev - p - 1, by omega⟩
      have eX : ext N (PRb 0 ev - p) p l = catF (fun r => if agP N p r l then ext N k9 (p + 1) (put1 l p r) else []) 0 13 := by rw [hk9]; rfl
      have loop : ∀ (n r : Nat) (I1 : SI) (J1 : SJ) (H1 : List HS) (v9 v10 v11 v12 : Option AV), r + n = 13 → KEEP m y p I I1 J J1 → LST I1 J1 m ev H1 → H1.length < w → H1 ++ catF (fun r => if agP N p r l then ext N k9 (p + 1) (put1 l p r) else []) r n = H ++ ext N (PRb 0 ev - p) p l → Sat none MX3_search d 117 (SQ m ev w y p I J (H ++ ext N (PRb 0 ev - p) p l)) 104 [some (vr 8 m), some (vi (nI y)), some (vi (nI x)), some (vi (nI b1)), some (vi (nI b2)), some (vi (nI e1)), some (vi (nI e2)), some (vi (nI (S x y))), some (vi (nI r)), v9, v10, v11, v12] [] (S0 I1 J1) := by
        intro n
        induction n with
        | zero =>
          intro r I1 J1 H1 v9 v10 v11 v12 hr kp hL hl eq
          simp only [catF, List.append_nil] at eq
          refine Sat.of k_X3_search [104] 60 ?_
          refine ⟨fun c => ⟨rfl, Or.inl rfl, I1, J1, ?_, rfl, ?_, kp⟩, fun c => absurd (nI_le (a := 13) (b := r) (by omega) (by omega)) c⟩
          · rw [← eq, decide_eq_false (by omega)]
            rfl
          · rw [← eq, take_all (by omega)]
            exact hL
        | succ n ihn =>
          intro r I1 J1 H1 v9 v10 v11 v12 hr kp hL hl eq
          simp only [catF] at eq
          have hP1 := hP0.keep kp h5
          have hr13 : r < 13 := by omega
          have er : (nI r).toNatClampNeg = r := nI_clamp (by omega)
          have hbit : (nI (S x y) >>> (nI r &&& 31)) &&& 1 = bi ((S x y).testBit r) := nx_bit (by have := (gr x y hxlt hylt).2; omega) (by omega)
          have hroom := room_t (N := N) (S := S) h5 hylt hxlt hp g4 g5 g7 hr13 hb he hbb hee
          have hag : agP N p r l = ((N x y).testBit r && allN x (fun z => (TT (l (PRb z x)) r).testBit (l (PRb z y)))) := by
            unfold agP agX
            rw [hp, lo1, hi1]
          have go : ∀ v9 v10 v11 v12, (if agP N p r l then ext N k9 (p + 1) (put1 l p r) else []) = [] → Sat none MX3_search d 117 (SQ m ev w y p I J (H ++ ext N (PRb 0 ev - p) p l)) 104 [some (vr 8 m), some (vi (nI y)), some (vi (nI x)), some (vi (nI b1)), some (vi (nI b2)), some (vi (nI e1)), some (vi (nI e2)), some (vi (nI (S x y))), some (vi (nI (r + 1))), v9, v10, v11, v12] [] (S0 I1 J1) := fun v9 v10 v11 v12 e => by
            rw [e, List.nil_append] at eq
            exact ihn (r + 1) I1 J1 H1 v9 v10 v11 v12 (by omega) kp hL hl eq
          obtain ⟨z1, z2, z3⟩ := zone_in g4 (by omega) hxlt (zb_5 r hr13)
          obtain ⟨z4, z5, z6⟩ := zone_in g4 (by omega) hxlt (ze_5 r hr13)
          refine Sat.of k_X3_search [104] 120 ?_
          refine ⟨fun c => absurd ((nI_leI (a := 13) (by omega) (by omega)).mp c) (by omega), fun c => ⟨fun c1 => (go _ _ _ _ ?_).to (by rw [← nI_1]; rfl) rfl, fun c1 => ⟨vp_in_nI hr13 (by decide), 0, 117, by omega, Nat.le_refl _, (c_zoneStart I1 J1 m y x (zb r) B E hP1.2.2.1 hxlt (by omega) (zb_5 r hr13) 0).to ?_ rfl ?_⟩⟩⟩
          · have c1 : (nI (S x y) >>> (nI r &&& 31)) &&& 1 = 0 := c1
            rw [hbit] at c1
            have hb0 := bi_f c1
            by_cases ea : agP N p r l = true
            · rw [if_pos ea]
              refine ext_nil (P := PRb 0 ev) p10 (by omega) (g7.put (by omega) hr13 ea) (fun l1 q1 q2 => ?_)
              have := gs.2 l1 q1 (fun q hq => by rw [q2 q (by omega), put1_ne (by omega)]) x y hxlt hylt (Nat.le_refl _)
              rw [← hp, q2 p (by omega), put1_at, hb0] at this
              cases this
            · rw [if_neg ea]
          · show [vr 8 m, vi (nI x), vi (nthD c62 (nI r).toNatClampNeg 0)] = _
            rw [er, zb_c r hr13]
          · have c1 : ¬ (nI (S x y) >>> (nI r &&& 31)) &&& 1 = 0 := c1
            rw [hbit] at c1
            have hb1 := bi_t c1
            have hNb : (N x y).testBit r = true := (gs.1 x y hxlt hylt (Nat.le_refl _)).2 r hb1
            rw [hNb, Bool.true_and] at hag
            rintro v σ ⟨rfl, rfl⟩
            refine ⟨by omega, vp_in_nI hr13 (by decide), 0, 117, by omega, Nat.le_refl _, (c_zoneEnd I1 J1 m y x (zb r) B E hP1.2.2.1 hxlt (by omega) (zb_5 r hr13) 0).to ?_ rfl ?_⟩
            · show [vr 8 m, vi (nI x), vi (nthD c62 (nI r).toNatClampNeg 0)] = _
              rw [er, zb_c r hr13]
            rintro v σ ⟨rfl, rfl⟩
            refine ⟨by omega, vp_in_nI hr13 (by decide), 0, 117, by omega, Nat.le_refl _, (c_zoneStart I1 J1 m y x (ze r) B E hP1.2.2.1 hxlt (by omega) (ze_5 r hr13) 0).to ?_ rfl ?_⟩
            · show [vr 8 m, vi (nI x), vi (nthD c63 (nI r).toNatClampNeg 0)] = _
              rw [er, ze_c r hr13]
            rintro v σ ⟨rfl, rfl⟩
            refine ⟨by omega, vp_in_nI hr13 (by decide), 0, 117, by omega, Nat.le_refl _, (c_zoneEnd I1 J1 m y x (ze r) B E hP1.2.2.1 hxlt (by omega) (ze_5 r hr13) 0).to ?_ rfl ?_⟩
            · show [vr 8 m, vi (nI x), vi (nthD c63 (nI r).toNatClampNeg 0)] = _
              rw [er, ze_c r hr13]
            rintro v σ ⟨rfl, rfl⟩
            have m1 : (if nI b1 < nI (ZS (B x) (E x) (zb r)) then nI (ZS (B x) (E x) (zb r)) else nI b1) = nI (max b1 (ZS (B x) (E x) (zb r))) := mxI (by omega) (by omega)
            have m2 : (if nI (ZT (B x) (E x) (zb r)) < nI b2 then nI (ZT (B x) (E x) (zb r)) else nI b2) = nI (min b2 (ZT (B x) (E x) (zb r))) := mnI (by omega) (by omega)
            have m3 : (if nI e1 < nI (ZS (B x) (E x) (ze r)) then nI (ZS (B x) (E x) (ze r)) else nI e1) = nI (max e1 (ZS (B x) (E x) (ze r))) := mxI (by omega) (by omega)
            have m4 : (if nI (ZT (B x) (E x) (ze r)) < nI e2 then nI (ZT (B x) (E x) (ze r)) else nI e2) = nI (min e2 (ZT (B x) (E x) (ze r))) := mnI (by omega) (by omega)
            refine ⟨by omega, fun c2 => (go _ _ _ _ ?_).to (by rw [← nI_1]; rfl) rfl, fun c2 => ⟨fun c3 => (go _ _ _ _ ?_).to (by rw [← nI_1]; rfl) rfl, fun c3 => ?_⟩⟩
            · have c2 : (if nI (ZT (B x) (E x) (zb r)) < nI b2 then nI (ZT (B x) (E x) (zb r)) else nI b2) < (if nI b1 < nI (ZS (B x) (E x) (zb r)) then nI (ZS (B x) (E x) (zb r)) else nI b1) := c2
              rw [m1, m2, nI_ltI (by omega) (by omega)] at c2
              rw [if_neg]
              rw [hag, ← hroom]
              omega
            · have c3 : (if nI (ZT (B x) (E x) (ze r)) < nI e2 then nI (ZT (B x) (E x) (ze r)) else nI e2) < (if nI e1 < nI (ZS (B x) (E x) (ze r)) then nI (ZS (B x) (E x) (ze r)) else nI e1) := c3
              rw [m3, m4, nI_ltI (by omega) (by omega)] at c3
              rw [if_neg]
              rw [hag, ← hroom]
              omega
            · have c2 : ¬ (if nI (ZT (B x) (E x) (zb r)) < nI b2 then nI (ZT (B x) (E x) (zb r)) else nI b2) < (if nI b1 < nI (ZS (B x) (E x) (zb r)) then nI (ZS (B x) (E x) (zb r)) else nI b1) := c2
              rw [m1, m2, nI_ltI (by omega) (by omega)] at c2
              have c3 : ¬ (if nI (ZT (B x) (E x) (ze r)) < nI e2 then nI (ZT (B x) (E x) (ze r)) else nI e2) < (if nI e1 < nI (ZS (B x) (E x) (ze r)) then nI (ZS (B x) (E x) (ze r)) else nI e1) := c3
              rw [m3, m4, nI_ltI (by omega) (by omega)] at c3
              have ea : agP N p r l = true := by
                rw [hag, ← hroom]
                omega
              rw [if_pos ea] at eq
              refine ⟨0, 117, by omega, Nat.le_refl _, (c_pairOf I1 J1 x y hxlt (by omega) 0).mono ?_⟩
              rintro v σ ⟨rfl, rfl⟩
              rw [← hp]
              have ep : (nI p).toNatClampNeg = p := nI_clamp (by omega)
              have ek : ∀ q, q < p → put1 l p r q = l q := fun q hq => put1_ne (by omega)
              have hkz : ∀ z, z < x → put1 l p r (PRb z y) = l (PRb z y) := fun z hz => ek _ (by rw [hp]; exact prb_lt2 hz)
              have hkx : put1 l p r (PRb x y) = r := by rw [← hp]; exact put1_at
              obtain ⟨j1, j2, j3, j4, j5, j6, j7, j8⟩ := hP1
              have kp2 : KEEP m y p I1 (uI I1 13 m p (nI r)) J1 J1 := ⟨frL.rf.u (by decide) (by decide), by rw [uI_t (by decide)], fun z hz => ⟨by rw [uI_t (by decide)], by rw [uI_t (by decide)]⟩, fun q hq => by rw [uI_j (by omega)], fun w hw h5 => by rw [uI_tt (by decide)], fun _ _ => rfl⟩
              have hP2 : PRE (uI I1 13 m p (nI r)) m ev N S B E (put1 l p r) y (p + 1) := by
                refine ⟨j1.frL kp2.1, by rw [uI_t (by decide)]; exact j2, fun z hz => by rw [uI_t (by decide), uI_t (by decide)]; exact j3 z hz, j4, fun z v hzv hv => ?_, fun q hq => ?_, j7.put (by omega) hr13 ea, fun hy => ⟨fun a b hab hb => by rw [uI_t (by decide)]; exact (j8 hy).1 a b hab hb, (j8 hy).2.more (by omega) ek⟩⟩
                · rw [ek _ (by have := prb_lt1; have h9 : PRb z v < PRb x y := Nat.lt_of_lt_of_le (pr0_lt y (by omega) v hv z hzv) (by unfold PRb; omega); omega)]
                  exact j5 z v hzv hv
                · by_cases eq1 : q = p
                  · subst eq1
                    rw [uI_at, put1_at]
                  · rw [uI_j eq1, ek q (by omega)]
                    exact j6 q (by omega)
              have hL2 : LST (uI I1 13 m p (nI r)) J1 m ev H1 := by
                obtain ⟨q1, q2, q3, q4⟩ := hL
                refine ⟨by rw [uI_t (by decide)]; exact q1, q2, q3, fun q => ?_⟩
                unfold TMS
                rw [uI_tt (by decide)]
                exact q4 q
              have ivb : IV (x + 1) B E (fun z => zb (put1 l p r (PRb z y))) (max b1 (ZS (B x) (E x) (zb r))) (min b2 (ZT (B x) (E x) (zb r))) := by
                have := (hb.congr (k1 := fun z => zb (put1 l p r (PRb z y))) (fun z hz => by rw [hkz z hz])).step
                simp only [hkx] at this
                exact this
              have ive : IV (x + 1) B E (fun z => ze (put1 l p r (PRb z y))) (max e1 (ZS (B x) (E x) (ze r))) (min e2 (ZT (B x) (E x) (ze r))) := by
                have := (he.congr (k1 := fun z => ze (put1 l p r (PRb z y))) (fun z hz => by rw [hkz z hz])).step
                simp only [hkx] at this
                exact this
              refine ⟨vp_in_nI (by omega) (by decide), M + 3, 117, by omega, Nat.le_refl _, (ih (uI I1 13 m p (nI r)) J1 y (x + 1) (p + 1) S B E (put1 l p r) (max b1 (ZS (B x) (E x) (zb r))) (min b2 (ZT (B x) (E x) (zb r))) (max e1 (ZS (B x) (E x) (ze r))) (min e2 (ZT (B x) (E x) (ze r))) H1 (M + 3) (by omega) hp2.symm (by omega) (by omega) (fun q => absurd q (by omega)) hP2 hL2 hl (by rw [uI_t (by decide), kp.2.1]; exact hw7) ivb ive (by omega) (by omega) (Nat.le_refl _)).to ?_ ?_ ?_⟩
              · show [vr 8 m, vi (nI y), vi (nI x + 1), vi (if nI b1 < nI (ZS (B x) (E x) (zb r)) then nI (ZS (B x) (E x) (zb r)) else nI b1), vi (if nI (ZT (B x) (E x) (zb r)) < nI b2 then nI (ZT (B x) (E x) (zb r)) else nI b2), vi (if nI e1 < nI (ZS (B x) (E x) (ze r)) then nI (ZS (B x) (E x) (ze r)) else nI e1), vi (if nI (ZT (B x) (E x) (ze r)) < nI e2 then nI (ZT (B x) (E x) (ze r)) else nI e2)] = _
                rw [m1, m2, m3, m4, nI_1]
              · show (uI I1 13 m (nI p).toNatClampNeg (nI r), J1, 117, aT) = _
                rw [ep]
              · rintro v σ ⟨I3, J3, rfl, rfl, n1, n2⟩
                have e9 : PRb 0 ev - (p + 1) = k9 := by omega
                rw [e9] at n1 ⊢
                have kp3 := (kp.tr kp2).tr (n2.less (Nat.le_refl _) (by omega))
                refine ⟨fun c4 => ?_, fun c4 => ⟨rfl, Or.inr rfl, I3, J3, ?_, rfl, ?_, kp3⟩⟩
                · have c4 := of_decide_eq_false (bi_f c4)
                  rw [take_all (by omega)] at n1
                  refine (ihn (r + 1) I3 J3 (H1 ++ ext N k9 (p + 1) (put1 l p r)) _ _ _ _ (by omega) kp3 n1 (by omega) (by rw [List.append_assoc]; exact eq)).to (by rw [← nI_1]; rfl) rfl
                · have c4 := of_decide_eq_true (bi_t c4)
                  rw [← eq, ← List.append_assoc, List.length_append, decide_eq_true (by omega)]
                  rfl
                · have c4 := of_decide_eq_true (bi_t c4)
                  rw [← eq, ← List.append_assoc, take_pre c4]
                  exact n1
      refine Sat.of k_X3_search [104] 60 ?_
      refine ⟨fun c => ?_, fun c => ⟨fun c1 => ⟨fun c2 => ⟨vp_in_nI (by omega) (by decide), ?_, ?_⟩, fun c2 => absurd (nI_lt hxlt (by omega)) c2⟩, fun c1 => absurd (show nI y < nI 5 from nI_lt (by omega) (by decide)) c1⟩⟩
      · have c : I 16 (2 * m + 1) 2 ≤ nI y := c
        rw [g2] at c
        exact absurd ((nI_leI (by omega) (by omega)).mp c) (by omega)
      · show vp_in (nI x * 5 + nI y) 25
        rw [ix5]
        exact vp_in_nI (by omega) (by omega)
      · refine (loop 13 0 I J H none none none none (by omega) KEEP.rf hH hHw (by rw [eX])).to ?_ rfl
        have e7 : I 10 (5 * m + (nI y).toNatClampNeg) (nI x * 5 + nI y).toNatClampNeg = nI (S x y) := by rw [ey, exy]; exact (gr x y hxlt hylt).1
        rw [← e7]
        rfl
