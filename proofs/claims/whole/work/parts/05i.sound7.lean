/-! SOUNDNESS, 8: calls, jumps, returns; the whole -/
section SOUND7
variable {X : Option (Nat × (Nat → Int32))} {E : EV} {M : MD} {d N0 N1 : Nat} {p : Program} {e : Env} {R : Room} {s : State} {m : MethodId} {args : Array Value} {below : List Frame} {meth : Method} {c : Code} {H : Heap} {locs : List Loc} {Z : State → Prop} {pc len : Nat} {la : Array Slot} {σ : ST} {ins : Instr} {tg : List Nat} {cv : Int32} {st : List AV} {k : List AV → ST → Prop}
theorem spl_full {na : Nat} {st as : List AV} {a : AV} {r : List AV} (h : spl na [] st = (as, a :: r)) : as.length = na ∧ st = as.reverse ++ a :: r := by
  have hl : na ≤ st.length := by
    rcases Nat.lt_or_ge st.length na with h1 | h1
    · have := spl_short na [] st as (a :: r) h h1
      cases this
    · exact h1
  have h2 := spl_len na [] st as (a :: r) h hl
  have h3 : as.length = na := by simpa using h2
  exact ⟨h3, spl_st h h3⟩
theorem vok_app {n : Nat} {as r : List AV} (h : ∀ a ∈ as.reverse ++ r, vok n a) : (∀ a ∈ as, vok n a) ∧ ∀ a ∈ r, vok n a :=
  ⟨fun a ha => h a (List.mem_append_left _ (List.mem_reverse.mpr ha)), fun a ha => h a (List.mem_append_right _ ha)⟩
theorem vok_res {n : Nat} {v : Option AV} {r : List AV} (h1 : ∀ a, v = some a → vok n a) (h2 : ∀ a ∈ r, vok n a) : ∀ a ∈ v.toList ++ r, vok n a := by
  intro a ha
  rcases List.mem_append.mp ha with h | h
  · cases v with
    | none => cases h
    | some b => exact h1 a (by rw [List.mem_singleton.mp h])
  · exact h2 a h
theorem recv_obj {t o cc : Nat} {C : String} {T : u_T} {N : Nat} {I : SI} {J : SJ} {n : Nat} {A : SA} (hC : Ctx E M d N0 N1 R p s m meth c args) (hR : Rep E H (I, J, n, A)) (ht : nthD tinfo t (99, 0) = (0, cc)) (hv : vld0 n t o) (hvc : vwCl[cc]? = some (C, T, N)) : ∃ cell : Cell, H[adr E t o]? = some cell ∧ cell.vm.isStatics = false ∧ s.vm.findClass C = some cell.cls :=
  va_recv (q := (C, T, N)) hC.2.2.2.2.2.2.1.1 hR.1 hvc (q0 := off t o) (by rw [Rep_at (H := H) hv, cellE_obj ht])
theorem cI_self {I : SI} {t k t1 k1 sp dp n : Nat} : cI I t k t1 k1 sp dp n t1 k1 = va_cpy (I t k) (I t1 k1) sp dp n := by
  funext q
  simp [cI]
set_option maxHeartbeats 4000000 in
theorem wcl_sound (hC : Ctx E M d N0 N1 R p s m meth c args) (hP : okP (mP M)) (hdg : decode (mY M).2.1 pc = .ok (ins, len)) (hk : chk (pc, ins, len, tg, cv) = true) (hw : wcl (mP M) d N1 ins st σ k) (hla : la.size = (mY M).2.2.1) (hR : Rep E H σ) (hS : va_S (eA E) s.heap H locs) (hN0 : N0 ≤ σ.2.2.1) (hN1 : σ.2.2.1 ≤ N1) (hst : ∀ a ∈ st, vok σ.2.2.1 a)
    (kk : ∀ (st1 : List AV) (σ1 : ST) (H1 : Heap) (locs1 : List Loc), k st1 σ1 → Rep E H1 σ1 → va_S (eA E) s.heap H1 locs1 → N0 ≤ σ1.2.2.1 → σ1.2.2.1 ≤ N1 → σ.2.2.1 ≤ σ1.2.2.1 → (∀ a ∈ st1, vok σ1.2.2.1 a) → W p (eL E) e R s m args below meth c H1 locs1 (σ1.2.2.1 - N0) (sz σ1.2.2.1 - sz N0) Z (F0 m (pc + len) la (st1.map (conc E)))) :
    W p (eL E) e R s m args below meth c H locs (σ.2.2.1 - N0) (sz σ.2.2.1 - sz N0) Z (F0 m pc la (st.map (conc E))) := by
  obtain ⟨I, J, n, A⟩ := σ
  have hn117 : n ≤ 117 := hR.2.2
  simp only at hN0 hN1 hst kk ⊢
  obtain ⟨pF, pM, pW, pC, pS, pL, pI, pT⟩ := hP
  obtain ⟨hx, hb, hml, hown, hts, hini, hKK, hn01, hN117, hfr, hlo, hcl, hsl⟩ := id hC
  have hm1 := sz_mono hN0
  have hm3 := sz_mono hN1
  have fin : ∀ {n1 : Nat} {r : List AV} {Q1 : Option AV → ST → Prop} (hvr : ∀ a ∈ r, vok n a) (hn : n ≤ n1) (h1 : n1 ≤ N1) (hQ : ∀ v σ1, Q1 v σ1 → k (v.toList ++ r) σ1) (v : Option AV) (σ1 : ST) (H1 : Heap) (locs1 : List Loc), Q1 v σ1 → Rep E H1 σ1 → σ1.2.2.1 = n1 → (∀ a, v = some a → vok n1 a) → va_S (eA E) s.heap H1 locs1 → W p (eL E) e R s m args below meth c H1 locs1 (n1 - N0) (sz n1 - sz N0) Z (F0 m (pc + len) la ((v.toList ++ r).map (conc E))) := by
    intro n1 r Q1 hvr hn h1 hQ v σ1 H1 locs1 g1 g2 g3 g4 g5
    subst g3
    have := kk (v.toList ++ r) σ1 H1 locs1 (hQ v σ1 g1) g2 g5 (by omega) h1 hn (vok_res g4 (fun a ha => (hvr a ha).mono hn (by omega)))
    exact this
  cases ins
  case invokevirtual idx =>
    simp only [chk, decide_eq_true_eq] at hk
    subst hk
    simp only [wcl] at hw
    split at hw
    · rename_i kd na ci Y pl hal
      have hme := alook_mem _ _ _ hal
      have hf := List.all_eq_true.mp pM _ hme
      have hWd := pW _ hme
      split at hw
      · rename_i as t o r hsp
        obtain ⟨hl, rfl⟩ := spl_full hsp
        obtain ⟨hva, hvr0⟩ := vok_app hst
        have hvt := vok_head hvr0
        have hvr := vok_tail hvr0
        split at hw
        · rename_i hw8
          have hw8' : wsum r ≤ 8 := Nat.le_of_ble_eq_true hw8
          split at hw
          · split at hw
            · rename_i cc ht
              split at hw
              · rename_i hcc
                have hcc' : cc = ci := Nat.eq_of_beq_eq_true hcc
                subst hcc'
                obtain ⟨d1, n1, e1, e2, hT⟩ := hw
                simp only [okM, Bool.and_eq_true, decide_eq_true_eq] at hf
                obtain ⟨⟨⟨⟨⟨f1, f2⟩, f3⟩, f4⟩, f5⟩, f6⟩ := hf
                have hv0 := vld_obj hvt ht (show (0 : Nat) ≠ 99 by decide)
                have hrc : ∃ cell : Cell, H[adr E t o]? = some cell ∧ cell.vm.isStatics = false ∧ s.vm.findClass Y.1.cls = some cell.cls := by
                  split at f2
                  · rename_i C T N hvc
                    rw [of_decide_eq_true f2]
                    exact recv_obj hC hR ht hv0 hvc
                  · cases f2
                exact r_callV (nest := false) (a0 := vr t o) (b := adr E t o) hC f1 (hWd (Or.inl (by show (0 : Nat) ≤ 5; omega))) (by rw [if_neg (by decide)]; exact inG f3 rfl) (inG f4 rfl) (inG f5 rfl) (inG f6 rfl) rfl hrc hl hla hw8' hR hS (vok_cons hvt hva) hN0 e1 e2 hT hdg (fin hvr hT.1 e2 (fun _ _ h => h))
              · exact hw.elim
            · exact hw.elim
          · split at hw
            · rename_i cc ht
              split at hw
              · rename_i hcc
                have hcc' : cc = ci := Nat.eq_of_beq_eq_true hcc
                subst hcc'
                obtain ⟨d1, n1, e1, e2, hT⟩ := hw
                simp only [okM, Bool.and_eq_true, decide_eq_true_eq] at hf
                obtain ⟨⟨⟨⟨⟨f1, f2⟩, f3⟩, f4⟩, f5⟩, f6⟩ := hf
                have hv0 := vld_obj hvt ht (show (0 : Nat) ≠ 99 by decide)
                have hrc : ∃ cell : Cell, H[adr E t o]? = some cell ∧ cell.vm.isStatics = false ∧ s.vm.findClass Y.1.cls = some cell.cls := by
                  split at f2
                  · rename_i C T N hvc
                    rw [of_decide_eq_true f2]
                    exact recv_obj hC hR ht hv0 hvc
                  · cases f2
                exact r_callV (nest := true) (a0 := vr t o) (b := adr E t o) hC f1 (hWd (Or.inl (by show (1 : Nat) ≤ 5; omega))) (by rw [if_pos rfl]; exact inN f3 rfl) (inG f4 rfl) (inG f5 rfl) (inG f6 rfl) rfl hrc hl hla hw8' hR hS (vok_cons hvt hva) hN0 e1 e2 hT hdg (fin hvr hT.1 e2 (fun _ _ h => h))
              · exact hw.elim
            · exact hw.elim
          · split at hw
            · rename_i ht66
              have ht' : t = 66 := Nat.eq_of_beq_eq_true ht66
              subst ht'
              have ho : o < 9 := by
                rcases vld_st hvt (show nthD tinfo 66 (99, 0) = (99, 0) from rfl) with ⟨h1, h2, -⟩ | ⟨-, -, h⟩
                · omega
                · exact h
              obtain ⟨d1, n1, e1, e2, hT⟩ := hw
              simp only [okM, Bool.and_eq_true, decide_eq_true_eq] at hf
              obtain ⟨⟨⟨⟨⟨f1, f2⟩, f3⟩, f4⟩, f5⟩, f6⟩ := hf
              have hrc : ∃ cell : Cell, H[adr E 66 o]? = some cell ∧ cell.vm.isStatics = false ∧ s.vm.findClass Y.1.cls = some cell.cls := by
                rw [f2, adr_st (by omega)]
                exact vk_recv hKK.2.2.2.2.1.2.2.1 ho hS
              exact r_callV (nest := false) (a0 := vr 66 o) (b := adr E 66 o) hC f1 (hWd (Or.inr rfl)) (by rw [if_neg (by decide)]; exact inG f3 rfl) (inG f4 rfl) (inG f5 rfl) (inG f6 rfl) rfl hrc hl hla hw8' hR hS (vok_cons hvt hva) hN0 e1 e2 hT hdg (fin hvr hT.1 e2 (fun _ _ h => h))
            · exact hw.elim
          · exact hw.elim
        · exact hw.elim
      · exact hw.elim
    · exact hw.elim
  case invokestatic idx =>
    simp only [chk, decide_eq_true_eq] at hk
    subst hk
    simp only [wcl] at hw
    split at hw
    · rename_i kd na ci Y pl hal
      have hme := alook_mem _ _ _ hal
      have hf := List.all_eq_true.mp pM _ hme
      have hWd := pW _ hme
      split at hw
      · split at hw
        · rename_i y x r
          split at hw
          · rename_i hw8
            have hw8' : wsum r ≤ 8 := Nat.le_of_ble_eq_true hw8
            simp only [okM, Bool.and_eq_true, decide_eq_true_eq] at hf
            obtain ⟨⟨⟨f3, f4⟩, f5⟩, f6⟩ := hf
            refine va_mmax hx hb (by rw [hml, hla]) hown (hts _ (inG f3 rfl)) (hts _ (inG f4 rfl)) (hts _ (inG f5 rfl)) (hts _ (inG f6 rfl)) (by omega) ?_ (by omega) (by omega) hdg (kk _ _ _ _ hw.2 hR hS hN0 hN1 (Nat.le_refl _) (vok_cons (a := vi _) trivial (vok_tail (vok_tail hst))))
            have := wsum_eq E r
            have h1 := hw.1
            show ((r.map (conc E)).map fun v => v.category).sum + 13 ≤ _
            omega
          · exact hw.elim
        · exact hw.elim
      · split at hw
        · rename_i y x r
          split at hw
          · rename_i hw8
            have hw8' : wsum r ≤ 8 := Nat.le_of_ble_eq_true hw8
            simp only [okM, Bool.and_eq_true, decide_eq_true_eq] at hf
            obtain ⟨⟨⟨f3, f4⟩, f5⟩, f6⟩ := hf
            refine va_mmin hx hb (by rw [hml, hla]) hown (hts _ (inG f3 rfl)) (hts _ (inG f4 rfl)) (hts _ (inG f5 rfl)) (hts _ (inG f6 rfl)) (by omega) ?_ (by omega) (by omega) hdg (kk _ _ _ _ hw.2 hR hS hN0 hN1 (Nat.le_refl _) (vok_cons (a := vi _) trivial (vok_tail (vok_tail hst))))
            have := wsum_eq E r
            have h1 := hw.1
            show ((r.map (conc E)).map fun v => v.category).sum + 13 ≤ _
            omega
          · exact hw.elim
        · exact hw.elim
      · split at hw
        · rename_i cn dp t1 o1 sp t o r
          split at hw
          · rename_i w ht
            split at hw
            · rename_i w1 ht1
              split at hw
              · rename_i hw8
                rw [Bool.and_eq_true] at hw8
                have hw8' : wsum r ≤ 8 := Nat.le_of_ble_eq_true hw8.1
                have hn' : n = 117 := Nat.eq_of_beq_eq_true hw8.2
                subst hn'
                obtain ⟨hd0, q1, q2, q3, q4, q5, hw⟩ := hw
                simp only [okM, Bool.and_eq_true, decide_eq_true_eq] at hf
                obtain ⟨⟨⟨f3, f4⟩, f5⟩, f6⟩ := hf
                have hv1 := vld_obj (vok_head (vok_tail (vok_tail hst))) ht1 (show (1 : Nat) ≠ 99 by decide)
                have hv := vld_obj (vok_head (vok_tail (vok_tail (vok_tail (vok_tail hst))))) ht (show (1 : Nat) ≠ 99 by decide)
                have hvr := vok_tail (vok_tail (vok_tail (vok_tail (vok_tail hst))))
                refine va_copyi (D := eD E) (ty := .int) (f := I t o) (g := I t1 o1) hx hb (by rw [hml, hla]) hown (hts _ (inG f3 rfl)) (hts _ (inG f4 rfl)) (hts _ (inG f5 rfl)) (hts _ (inG f6 rfl)) hKK.1 hR.1 wsO_D hS (off t o) (off t1 o1) 0 0 (by rw [Rep_at (H := H) hv, cellE_int ht]) (by rw [Rep_at (H := H) hv1, cellE_int ht1]) rfl rfl rfl q1 q2 q3 q4 q5 (fun _ _ => rfl) (by omega) ?_ hdg (fun H1 locs1 g1 _ g3 => ?_)
                · have := wsum_eq E r
                  show ((r.map (conc E)).map fun v => v.category).sum + (7 + 11) ≤ _
                  omega
                · refine kk _ _ _ _ hw ?_ g3 hN0 hN1 (Nat.le_refl _) hvr
                  have e1 : cellE E t1 o1 (cI I t o t1 o1 sp.toNatClampNeg dp.toNatClampNeg cn.toNatClampNeg) J A = .inl (eC E 0, w1, .inl (va_cpy (I t o) (I t1 o1) sp.toNatClampNeg dp.toNatClampNeg cn.toNatClampNeg)) := by rw [cellE_int ht1, cI_self]
                  rw [← e1, wsO_set (t := t1) (k := o1) hv1 (fun a b h => cellE_congr (cI_ne h) (fun _ => rfl) rfl)] at g1
                  exact ⟨g1, fun h => absurd h (by omega), hn117⟩
              · exact hw.elim
            · exact hw.elim
          · exact hw.elim
        · exact hw.elim
      · cases hsp : spl na [] st with
        | mk as r =>
          rw [hsp] at hw
          simp only at hw
          split at hw
          · rename_i hw8
            rw [Bool.and_eq_true] at hw8
            have hw8' : wsum r ≤ 8 := Nat.le_of_ble_eq_true hw8.1
            have hlen : as.length = na := Nat.eq_of_beq_eq_true hw8.2
            obtain ⟨d1, n1, e1, e2, hT⟩ := hw
            simp only [okM, Bool.and_eq_true, decide_eq_true_eq] at hf
            obtain ⟨⟨⟨f1, f3⟩, f4⟩, f5⟩ := hf
            have hst2 := spl_st hsp hlen
            subst hst2
            obtain ⟨hva, hvr⟩ := vok_app hst
            exact r_callS (nest := false) hC f1 (hWd (Or.inl (by show (2 : Nat) ≤ 5; omega))) (by rw [if_neg (by decide)]; exact inG f3 rfl) (inG f4 rfl) (inG f5 rfl) hlen hla hw8' hR hS hva hN0 e1 e2 hT hdg (fin hvr hT.1 e2 (fun _ _ h => h))
          · exact hw.elim
      · cases hsp : spl na [] st with
        | mk as r =>
          rw [hsp] at hw
          simp only at hw
          split at hw
          · rename_i hw8
            rw [Bool.and_eq_true] at hw8
            have hw8' : wsum r ≤ 8 := Nat.le_of_ble_eq_true hw8.1
            have hlen : as.length = na := Nat.eq_of_beq_eq_true hw8.2
            obtain ⟨d1, n1, e1, e2, hT⟩ := hw
            simp only [okM, Bool.and_eq_true, decide_eq_true_eq] at hf
            obtain ⟨⟨⟨f1, f3⟩, f4⟩, f5⟩ := hf
            have hst2 := spl_st hsp hlen
            subst hst2
            obtain ⟨hva, hvr⟩ := vok_app hst
            exact r_callS (nest := true) hC f1 (hWd (Or.inl (by show (3 : Nat) ≤ 5; omega))) (by rw [if_pos rfl]; exact inN f3 rfl) (inG f4 rfl) (inG f5 rfl) hlen hla hw8' hR hS hva hN0 e1 e2 hT hdg (fin hvr hT.1 e2 (fun _ _ h => h))
          · exact hw.elim
      · exact hw.elim
    · exact hw.elim
  case invokespecial idx =>
    simp only [chk, decide_eq_true_eq] at hk
    subst hk
    simp only [wcl] at hw
    split at hw
    · rename_i kd na ci Y pl hal
      have hme := alook_mem _ _ _ hal
      have hf := List.all_eq_true.mp pM _ hme
      have hWd := pW _ hme
      split at hw
      · rename_i as t o r hsp
        obtain ⟨hl, rfl⟩ := spl_full hsp
        obtain ⟨hva, hvr0⟩ := vok_app hst
        have hvt := vok_head hvr0
        have hvr := vok_tail hvr0
        split at hw
        · rename_i hw8
          have hw8' : wsum r ≤ 8 := Nat.le_of_ble_eq_true hw8
          split at hw
          · obtain ⟨d1, n1, e1, e2, hT⟩ := hw
            simp only [okM, Bool.and_eq_true, decide_eq_true_eq] at hf
            obtain ⟨⟨⟨⟨⟨f1, f2⟩, f2b⟩, f3⟩, f4⟩, f5⟩ := hf
            exact r_callI (nest := false) (a0 := vr t o) (b := adr E t o) hC f1 (hWd (Or.inl (by show (4 : Nat) ≤ 5; omega))) f2 f2b (by rw [if_neg (by decide)]; exact inG f3 rfl) (inG f4 rfl) (inG f5 rfl) rfl hl hla hw8' hR hS (vok_cons hvt hva) hN0 e1 e2 hT hdg (fin hvr hT.1 e2 (fun _ _ h => h))
          · obtain ⟨d1, n1, e1, e2, hT⟩ := hw
            simp only [okM, Bool.and_eq_true, decide_eq_true_eq] at hf
            obtain ⟨⟨⟨⟨⟨f1, f2⟩, f2b⟩, f3⟩, f4⟩, f5⟩ := hf
            exact r_callI (nest := true) (a0 := vr t o) (b := adr E t o) hC f1 (hWd (Or.inl (by show (5 : Nat) ≤ 5; omega))) f2 f2b (by rw [if_pos rfl]; exact inN f3 rfl) (inG f4 rfl) (inG f5 rfl) rfl hl hla hw8' hR hS (vok_cons hvt hva) hN0 e1 e2 hT hdg (fin hvr hT.1 e2 (fun _ _ h => h))
          · simp only [okM, Bool.and_eq_true, decide_eq_true_eq] at hf
            obtain ⟨⟨⟨f1, f3⟩, f4⟩, f5⟩ := hf
            subst f1
            have has : as = [] := List.length_eq_zero_iff.mp hl
            subst has
            refine W.objInit hx hb hown (hts _ (inG f3 rfl)) (hts _ (inG f4 rfl)) (hts _ (inG f5 rfl)) (g := F0 m pc la (([].reverse ++ vr t o :: r).map (conc E))) rfl (by rw [hml]; exact hla) (a := adr E t o) (rest := r.map (conc E)) rfl hdg (by omega) ?_ (kk _ _ _ _ hw.2 hR hS hN0 hN1 (Nat.le_refl _) hvr)
            have := wsum_eq E r
            have h1 := hw.1
            show 2 * 0 + ((r.map (conc E)).map fun v => v.category).sum + 12 ≤ _
            omega
          · exact hw.elim
        · exact hw.elim
      · exact hw.elim
    · exact hw.elim
  all_goals exact (hw : False).elim
end SOUND7
