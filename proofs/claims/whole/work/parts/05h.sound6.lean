/-! SOUNDNESS, 7: the instructions on the store, together -/
section SOUND6
variable {X : Option (Nat × (Nat → Int32))} {E : EV} {M : MD} {d N0 N1 : Nat} {p : Program} {e : Env} {R : Room} {s : State} {m : MethodId} {args : Array Value} {below : List Frame} {meth : Method} {c : Code} {H : Heap} {locs : List Loc} {Z : State → Prop} {pc len : Nat} {la : Array Slot} {σ : ST} {ins : Instr} {tg : List Nat} {cv : Int32} {st : List AV} {k : List AV → ST → Prop}
theorem vok_cons {n : Nat} {a : AV} {r : List AV} (h1 : vok n a) (h2 : ∀ b ∈ r, vok n b) : ∀ b ∈ a :: r, vok n b := fun b hb => (List.mem_cons.mp hb).elim (fun h => h ▸ h1) (h2 b)
theorem vok_tail {n : Nat} {a : AV} {r : List AV} (h : ∀ b ∈ a :: r, vok n b) : ∀ b ∈ r, vok n b := fun b hb => h b (List.mem_cons_of_mem _ hb)
theorem vok_head {n : Nat} {a : AV} {r : List AV} (h : ∀ b ∈ a :: r, vok n b) : vok n a := h a List.mem_cons_self
theorem ac_int : Cond.arrayClass (newarray.typeOf .int) ∈ gw := by decide +kernel
theorem ac_bool : Cond.arrayClass (newarray.typeOf .boolean) ∈ gw := by decide +kernel
theorem ac_long : Cond.arrayClass (newarray.typeOf .long) ∈ gw := by decide +kernel
theorem tinfo_small : ∀ t, t < 51 → (nthD tinfo t (99, 0)).2 ≤ 1792 := by decide +kernel
theorem uA_self {A : SA} {t k j i : Nat} : uA A t k j t k i = if i = j then true else A t k i := by
  simp [uA]
theorem book_lt {n b : Nat} (h : vld0 n 3 b) : b < 12 := by
  obtain ⟨o, h1, h2, h3⟩ := h
  have h5 : ∀ o, o < 117 → (nthD allIds o (99, 0)).1 = 3 → (nthD allIds o (99, 0)).2 < 12 := by decide +kernel
  have h6 := h5 o (by omega)
  rw [h3] at h6
  exact h6 rfl
theorem book_vld : ∀ b, b < 12 → Nat.blt (off 3 b) 117 = true := by decide +kernel
theorem row_vld : ∀ o, o < 2 → ∀ j, j < 5 → Nat.blt (off 10 (5 * o + j)) 117 = true := by decide +kernel
theorem rows_lt {n t b w : Nat} (h : vld0 n t b) (ht : nthD tinfo t (99, 0) = (6, w)) : b < 2 ∧ w = 5 := by
  obtain ⟨o, h1, h2, h3⟩ := h
  have h5 : ∀ o, o < 117 → (nthD tinfo (nthD allIds o (99, 0)).1 (99, 0)).1 = 6 → (nthD allIds o (99, 0)).2 < 2 ∧ (nthD tinfo (nthD allIds o (99, 0)).1 (99, 0)).2 = 5 := by decide +kernel
  have h6 := h5 o (by omega)
  rw [h3, ht] at h6
  exact h6 rfl
theorem fix_len : ∀ t, t < 51 → (nthD tinfo t (99, 0)).1 = 4 → (nthD tinfo t (99, 0)).2 = 2 := by decide +kernel
set_option maxHeartbeats 4000000 in
set_option maxRecDepth 10000 in
theorem whp_sound (hC : Ctx E M d N0 N1 R p s m meth c args) (hX : XE X E) (hP : okP (mP M)) (hdg : decode (mY M).2.1 pc = .ok (ins, len)) (hk : chk (pc, ins, len, tg, cv) = true) (hw : whp X (mP M) (mI M) N1 ins st σ k) (hR : Rep E H σ) (hS : va_S (eA E) s.heap H locs) (hN0 : N0 ≤ σ.2.2.1) (hN1 : σ.2.2.1 ≤ N1) (hst : ∀ a ∈ st, vok σ.2.2.1 a)
    (kk : ∀ (st1 : List AV) (σ1 : ST) (H1 : Heap) (locs1 : List Loc), k st1 σ1 → Rep E H1 σ1 → va_S (eA E) s.heap H1 locs1 → N0 ≤ σ1.2.2.1 → σ1.2.2.1 ≤ N1 → σ.2.2.1 ≤ σ1.2.2.1 → (∀ a ∈ st1, vok σ1.2.2.1 a) → W p (eL E) e R s m args below meth c H1 locs1 (σ1.2.2.1 - N0) (sz σ1.2.2.1 - sz N0) Z (F0 m (pc + len) la (st1.map (conc E)))) :
    W p (eL E) e R s m args below meth c H locs (σ.2.2.1 - N0) (sz σ.2.2.1 - sz N0) Z (F0 m pc la (st.map (conc E))) := by
  obtain ⟨I, J, n, A⟩ := σ
  have hn117 : n ≤ 117 := hR.2.2
  simp only at hN0 hN1 hst kk ⊢
  obtain ⟨pF, pM, pW, pC, pS, pL, pI, pT⟩ := hP
  cases ins
  case getfield idx =>
    simp only [chk, decide_eq_true_eq] at hk
    subst hk
    simp only [whp] at hw
    split at hw
    · rename_i ci j nest pl hal
      have hf := List.all_eq_true.mp pF _ (alook_mem _ _ _ hal)
      split at hw
      · rename_i t o r
        have hvt := vok_head hst
        have hvr := vok_tail hst
        split at hw
        · rename_i hci
          have hci' : ci = 100 := Nat.eq_of_beq_eq_true hci
          subst hci'
          split at hw
          · rename_i ht
            have ht' : t = 66 := Nat.eq_of_beq_eq_true ht
            subst ht'
            have ho : o < 9 := by
              rcases vld_st hvt (show nthD tinfo 66 (99, 0) = (99, 0) from rfl) with ⟨h1, h2, -⟩ | ⟨-, -, h⟩
              · omega
              · exact h
            split at hw
            · exact r_sgf (j := 0) hC hf hS ho hdg (kk _ _ _ _ hw hR hS hN0 hN1 (Nat.le_refl _) (vok_cons (Or.inr (Or.inr ⟨by omega, by omega, ho⟩)) hvr))
            · rename_i hj
              refine r_sgf (j := j) hC hf hS ho hdg ?_
              have h2 := kk _ _ _ _ hw hR hS hN0 hN1 (Nat.le_refl _) (vok_cons (a := vi 0) trivial hvr)
              cases j with
              | zero => exact absurd rfl hj
              | succ j => exact h2
          · exact hw.elim
        · rename_i hci
          split at hw
          · rename_i cc ht
            split at hw
            · rename_i hcc
              have hcc' : cc = ci := Nat.eq_of_beq_eq_true hcc
              subst hcc'
              have hv0 := vld_obj hvt ht (show (0 : Nat) ≠ 99 by decide)
              split at hw
              · rename_i t1 cd hfe
                have hj : j < (nthD ftab cc []).length := nthD_lt hfe (fun h => by cases h)
                have hA : A t o j = true := by
                  cases hq : A t o j with
                  | true => rfl
                  | false => rw [hq] at hw; exact hw.elim
                rw [hA] at hw
                simp only at hw
                have hvr1 : vld0 n t1 (rtg cd o) ∧ k (vr t1 (rtg cd o) :: r) (I, J, n, A) := by
                  split at hw
                  · rename_i hn
                    have hn' : n = 117 := Nat.eq_of_beq_eq_true hn
                    subst hn'
                    refine ⟨?_, wref_eq hw⟩
                    obtain ⟨x, x1, x2, x3⟩ := hv0
                    have hra := ref_all x x1 j (Nat.lt_of_lt_of_le hj (flen_b cc))
                    rw [x3] at hra
                    simp only [ht, hfe] at hra
                    exact off_vld (by rw [← Nat.blt_eq]; exact hra trivial trivial) (Nat.le_refl _)
                  · split at hw
                    · rename_i hvb
                      exact ⟨off_vld (by rw [← Nat.blt_eq]; exact hvb) hn117, wref_eq hw⟩
                    · exact hw.elim
                refine r_get hC hf hci ht hv0 hR hdg ?_
                rw [fval_ref hj hfe, if_pos hA]
                exact kk _ _ _ _ hvr1.2 hR hS hN0 hN1 (Nat.le_refl _) (vok_cons (Or.inl hvr1.1) hvr)
              · rename_i hfe
                have hj : j < (nthD ftab cc []).length := nthD_lt hfe (fun h => by cases h)
                refine r_get hC hf hci ht hv0 hR hdg ?_
                rw [fval_int hj (by rw [hfe]; show (0 : Nat) ≠ 2; decide)]
                exact kk _ _ _ _ hw hR hS hN0 hN1 (Nat.le_refl _) (vok_cons (a := vi _) trivial hvr)
              · rename_i hfe
                have hj : j < (nthD ftab cc []).length := nthD_lt hfe (fun h => by cases h)
                refine r_get hC hf hci ht hv0 hR hdg ?_
                rw [fval_int hj (by rw [hfe]; show (1 : Nat) ≠ 2; decide)]
                exact kk _ _ _ _ hw hR hS hN0 hN1 (Nat.le_refl _) (vok_cons (a := vi _) trivial hvr)
              · exact hw.elim
            · exact hw.elim
          · exact hw.elim
      · exact hw.elim
    · exact hw.elim
  case putfield idx =>
    simp only [chk, decide_eq_true_eq] at hk
    subst hk
    simp only [whp] at hw
    split at hw
    · rename_i ci j nest pl hal
      have hf := List.all_eq_true.mp pF _ (alook_mem _ _ _ hal)
      split at hw
      · rename_i v t o r
        have hvv := vok_head hst
        have hvt := vok_head (vok_tail hst)
        have hvr := vok_tail (vok_tail hst)
        split at hw
        · rename_i cc ht
          split at hw
          · rename_i hcc
            have hcc' : cc = ci := Nat.eq_of_beq_eq_true hcc
            subst hcc'
            have hci : Nat.beq cc 100 = false := by
              cases hq : Nat.beq cc 100 with
              | false => rfl
              | true =>
                have h1 : cc = 100 := Nat.eq_of_beq_eq_true hq
                subst h1
                have h2 : ∀ t, t < 51 → (nthD tinfo t (99, 0)).1 = 0 → (nthD tinfo t (99, 0)).2 ≠ 100 := by decide +kernel
                exact absurd (by rw [ht]) (h2 t (tinfo_lt ht (show (0 : Nat) ≠ 99 by decide)) (by rw [ht]))
            have hv0 := vld_obj hvt ht (show (0 : Nat) ≠ 99 by decide)
            split at hw
            · rename_i hfe
              have hj : j < (nthD ftab cc []).length := nthD_lt hfe (fun h => by cases h)
              split at hw
              · rename_i x
                refine r_put (I1 := uI I t o j x) (A1 := A) (ty := .int) hC hf hci ht hv0 hR hS (fun C T N h => fk0 h hj (by rw [hfe])) rfl rfl ?_ ?_ (fun a b h => cellE_congr (uI_ne h) (fun _ => rfl) rfl) hdg (fun H1 locs1 g1 g2 => kk _ _ _ _ hw g1 g2 hN0 hN1 (Nat.le_refl _) hvr)
                · rw [fval_int hj (by rw [hfe]; show (0 : Nat) ≠ 2; decide)]
                  simp [uI, conc]
                · intro i hi
                  unfold fval
                  rw [show uI I t o j x t o i = I t o i from by simp [uI, hi]]
              · exact hw.elim
            · rename_i hfe
              have hj : j < (nthD ftab cc []).length := nthD_lt hfe (fun h => by cases h)
              split at hw
              · rename_i x
                obtain ⟨hx01, hw⟩ := hw
                refine r_put (I1 := uI I t o j x) (A1 := A) (ty := .boolean) hC hf hci ht hv0 hR hS (fun C T N h => fk1 h hj (by rw [hfe])) (by rcases hx01 with rfl | rfl <;> rfl) (by rcases hx01 with rfl | rfl <;> rfl) ?_ ?_ (fun a b h => cellE_congr (uI_ne h) (fun _ => rfl) rfl) hdg (fun H1 locs1 g1 g2 => kk _ _ _ _ hw g1 g2 hN0 hN1 (Nat.le_refl _) hvr)
                · rw [fval_int hj (by rw [hfe]; show (1 : Nat) ≠ 2; decide)]
                  simp [uI, conc]
                · intro i hi
                  unfold fval
                  rw [show uI I t o j x t o i = I t o i from by simp [uI, hi]]
              · exact hw.elim
            · rename_i t1 cd hfe
              have hj : j < (nthD ftab cc []).length := nthD_lt hfe (fun h => by cases h)
              split at hw
              · rename_i hini
                rw [Bool.and_eq_true] at hini
                split at hw
                · rename_i t2 o2
                  obtain ⟨⟨e1, e2⟩, hw⟩ := hw
                  subst e1
                  subst e2
                  obtain ⟨ty, hty, hrf⟩ : ∃ ty, (∀ C T N, vwCl[cc]? = some (C, T, N) → parseFieldDescriptor (T j).2.2.1 = some ty ∧ (T j).2.2.2 = true) ∧ isRf (some ty) = true := by
                    obtain ⟨C, T, N, h1, -⟩ := okF_link hf hci
                    obtain ⟨g1, g2⟩ := fk2 h1 hj (by rw [hfe])
                    cases hq : parseFieldDescriptor (T j).2.2.1 with
                    | none => rw [hq] at g1; cases g1
                    | some ty =>
                      rw [hq] at g1
                      refine ⟨ty, fun C1 T1 N1 h => ?_, g1⟩
                      rw [h1] at h
                      cases h
                      exact ⟨hq, g2⟩
                  have hnf : ∀ a : Nat, narrow ty (.ref a) = .ref a ∧ fits ty (.ref a) = true := by
                    intro a
                    cases ty <;> first | exact ⟨rfl, rfl⟩ | (simp [isRf] at hrf)
                  refine r_putF (A1 := uA A t o j) (ty := ty) (v := .ref (adr E t2 (rtg cd o))) hC hini.1 hf hci ht hv0 hR hS hty (by simpa using hini.2) (hnf _).1 (hnf _).2 ?_ ?_ (fun a b h => cellE_congr rfl (fun _ => rfl) (uA_ne h)) hdg (fun H1 locs1 g1 g2 => kk _ _ _ _ hw g1 g2 hN0 hN1 (Nat.le_refl _) hvr)
                  · rw [fval_ref hj hfe, uA_self, if_pos rfl, if_pos rfl]
                  · intro i hi
                    unfold fval
                    rw [uA_self, if_neg hi]
                · exact hw.elim
              · exact hw.elim
            · exact hw.elim
          · exact hw.elim
        · exact hw.elim
      · exact hw.elim
    · exact hw.elim
  case iaload =>
    simp only [chk, decide_eq_true_eq] at hk
    subst hk
    simp only [whp] at hw
    split at hw
    · rename_i i t o r
      have hvt := vok_head (vok_tail hst)
      have hvr := vok_tail (vok_tail hst)
      split at hw
      · rename_i w ht
        exact r_ild hC ht (vld_obj hvt ht (show (1 : Nat) ≠ 99 by decide)) hR hw.1 hdg (kk _ _ _ _ hw.2 hR hS hN0 hN1 (Nat.le_refl _) (vok_cons (a := vi _) trivial hvr))
      · rename_i w ht
        have hvs := vld_st hvt ht
        split at hw
        · rename_i ht65
          have ht' : t = 65 := Nat.eq_of_beq_eq_true ht65
          subst ht'
          have ho : o = 0 := by
            rcases hvs with ⟨-, -, h⟩ | ⟨h, -⟩
            · exact h
            · omega
          subst ho
          split at hw
          · rename_i L xs
            obtain ⟨hX1, hX2⟩ := hX
            rw [← hX1, ← hX2] at hw
            exact r_scr hC hS hw.1 hdg (kk _ _ _ _ hw.2 hR hS hN0 hN1 (Nat.le_refl _) (vok_cons (a := vi _) trivial hvr))
          · exact hw.elim
        · have ho : o = 0 := by
            rcases hvs with ⟨-, -, h⟩ | ⟨h1, h2, -⟩
            · exact h
            · exfalso
              unfold wtab at hw
              split at hw <;> first | omega | exact hw
          subst ho
          exact r_tab hC hS hw hdg (fun x hx => kk _ _ _ _ hx hR hS hN0 hN1 (Nat.le_refl _) (vok_cons (a := vi _) trivial hvr))
      · exact hw.elim
    · exact hw.elim
  case iastore =>
    simp only [chk, decide_eq_true_eq] at hk
    subst hk
    simp only [whp] at hw
    split at hw
    · rename_i x i t o r
      have hvt := vok_head (vok_tail (vok_tail hst))
      have hvr := vok_tail (vok_tail (vok_tail hst))
      split at hw
      · rename_i w ht
        exact r_ist hC ht (vld_obj hvt ht (show (1 : Nat) ≠ 99 by decide)) hR hS hw.1 hdg (fun H1 locs1 g1 g2 => kk _ _ _ _ hw.2 g1 g2 hN0 hN1 (Nat.le_refl _) hvr)
      · exact hw.elim
    · exact hw.elim
  case baload =>
    simp only [chk, decide_eq_true_eq] at hk
    subst hk
    simp only [whp] at hw
    split at hw
    · rename_i i t o r
      have hvt := vok_head (vok_tail hst)
      have hvr := vok_tail (vok_tail hst)
      split at hw
      · rename_i w ht
        exact r_zld hC ht (vld_obj hvt ht (show (2 : Nat) ≠ 99 by decide)) hR hw.1 hdg (kk _ _ _ _ hw.2 hR hS hN0 hN1 (Nat.le_refl _) (vok_cons (a := vi _) trivial hvr))
      · rename_i w ht
        have hvs := vld_st hvt ht
        split at hw
        · rename_i ht67
          have ht' : t = 67 := Nat.eq_of_beq_eq_true ht67
          subst ht'
          have ho : o < 9 := by
            rcases hvs with ⟨h1, h2, -⟩ | ⟨-, -, h⟩
            · omega
            · exact h
          exact r_sby hC hS ho hw.1 hdg (kk _ _ _ _ hw.2 hR hS hN0 hN1 (Nat.le_refl _) (vok_cons (a := vi _) trivial hvr))
        · exact hw.elim
      · exact hw.elim
    · exact hw.elim
  case bastore =>
    simp only [chk, decide_eq_true_eq] at hk
    subst hk
    simp only [whp] at hw
    split at hw
    · rename_i x i t o r
      have hvt := vok_head (vok_tail (vok_tail hst))
      have hvr := vok_tail (vok_tail (vok_tail hst))
      split at hw
      · rename_i w ht
        exact r_zst hC ht (vld_obj hvt ht (show (2 : Nat) ≠ 99 by decide)) hR hS hw.1 hw.2.1 hdg (fun H1 locs1 g1 g2 => kk _ _ _ _ hw.2.2 g1 g2 hN0 hN1 (Nat.le_refl _) hvr)
      · exact hw.elim
    · exact hw.elim
  case laload =>
    simp only [chk, decide_eq_true_eq] at hk
    subst hk
    simp only [whp] at hw
    split at hw
    · rename_i i t o r
      have hvt := vok_head (vok_tail hst)
      have hvr := vok_tail (vok_tail hst)
      split at hw
      · rename_i ht
        have ht' : t = 14 := Nat.eq_of_beq_eq_true ht
        subst ht'
        exact r_lld hC (vld_obj hvt t14i (show (3 : Nat) ≠ 99 by decide)) hR hw.1 hdg (kk _ _ _ _ hw.2 hR hS hN0 hN1 (Nat.le_refl _) (vok_cons (a := vl _) trivial hvr))
      · exact hw.elim
    · exact hw.elim
  case lastore =>
    simp only [chk, decide_eq_true_eq] at hk
    subst hk
    simp only [whp] at hw
    split at hw
    · rename_i x i t o r
      have hvt := vok_head (vok_tail (vok_tail hst))
      have hvr := vok_tail (vok_tail (vok_tail hst))
      split at hw
      · rename_i ht
        have ht' : t = 14 := Nat.eq_of_beq_eq_true ht
        subst ht'
        exact r_lst hC (vld_obj hvt t14i (show (3 : Nat) ≠ 99 by decide)) hR hS hw.1 hdg (fun H1 locs1 g1 g2 => kk _ _ _ _ hw.2 g1 g2 hN0 hN1 (Nat.le_refl _) hvr)
      · exact hw.elim
    · exact hw.elim
  case aaload =>
    simp only [chk, decide_eq_true_eq] at hk
    subst hk
    simp only [whp] at hw
    split at hw
    · rename_i i t o r
      have hvt := vok_head (vok_tail hst)
      have hvr := vok_tail (vok_tail hst)
      split at hw
      · rename_i hn
        have hn' : n = 117 := Nat.eq_of_beq_eq_true hn
        subst hn'
        split at hw
        · rename_i w ht
          have hv0 := vld_obj hvt ht (show (4 : Nat) ≠ 99 by decide)
          obtain ⟨hin, hw⟩ := hw
          have hlt : i.toNatClampNeg < w := Nat.not_le.mp fun q => hin (Or.inr q)
          have hw2 : w = 2 := by
            have h1 := fix_len t (tinfo_lt ht (show (4 : Nat) ≠ 99 by decide)) (by rw [ht])
            rw [ht] at h1
            exact h1
          split at hw
          · rename_i hA
            exact r_ald (ty0 := 3) (ty := .object RX1) (f := fun j => if A t o j = true then some (adr E 3 (10 + j)) else none) (a := adr E 3 (10 + i.toNatClampNeg)) hC hv0 hR (cellE_fix ht) rfl rfl hin (by simp only [hA, if_true]) hdg (kk _ _ _ _ hw hR hS hN0 hN1 (Nat.le_refl _) (vok_cons (Or.inl (off_vld (by rw [← Nat.blt_eq]; exact book_vld _ (by omega)) (Nat.le_refl _))) hvr))
          · exact hw.elim
        · rename_i w ht
          have hv0 := vld_obj hvt ht (show (5 : Nat) ≠ 99 by decide)
          obtain ⟨hin, hlt, hw⟩ := hw
          split at hw
          · rename_i hA
            exact r_ald (ty0 := 3) (ty := .object RX1) (f := fun j => if A t o j = true then some (adr E 3 (I t o j).toNatClampNeg) else none) (a := adr E 3 (I t o i.toNatClampNeg).toNatClampNeg) hC hv0 hR (cellE_dyn ht) rfl rfl hin (by simp only [hA, if_true]) hdg (kk _ _ _ _ hw hR hS hN0 hN1 (Nat.le_refl _) (vok_cons (Or.inl (off_vld (by rw [← Nat.blt_eq]; exact book_vld _ hlt) (Nat.le_refl _))) hvr))
          · exact hw.elim
        · rename_i w ht
          have hv0 := vld_obj hvt ht (show (6 : Nat) ≠ 99 by decide)
          obtain ⟨ho, hw5⟩ := rows_lt hv0 ht
          obtain ⟨hin, hw⟩ := hw
          have hlt : i.toNatClampNeg < w := Nat.not_le.mp fun q => hin (Or.inr q)
          exact r_ald (ty0 := 4) (ty := .array .int) (f := fun j => if j < w then some (adr E 10 (5 * o + j)) else none) (a := adr E 10 (5 * o + i.toNatClampNeg)) hC hv0 hR (cellE_rows ht) rfl rfl hin (by simp only [hlt, if_true]) hdg (kk _ _ _ _ hw hR hS hN0 hN1 (Nat.le_refl _) (vok_cons (Or.inl (off_vld (by rw [← Nat.blt_eq]; exact row_vld o ho _ (by omega)) (Nat.le_refl _))) hvr))
        · exact hw.elim
      · exact hw.elim
    · exact hw.elim
  case aastore =>
    simp only [chk, decide_eq_true_eq] at hk
    subst hk
    simp only [whp] at hw
    split at hw
    · rename_i t2 b i t o r
      have hvb := vok_head hst
      have hvt := vok_head (vok_tail (vok_tail hst))
      have hvr := vok_tail (vok_tail (vok_tail hst))
      split at hw
      · rename_i ht2
        have ht' : t2 = 3 := Nat.eq_of_beq_eq_true ht2
        subst ht'
        have hvb0 := vld_obj hvb (show nthD tinfo 3 (99, 0) = (0, 1) from rfl) (show (0 : Nat) ≠ 99 by decide)
        split at hw
        · rename_i w ht
          have hv0 := vld_obj hvt ht (show (4 : Nat) ≠ 99 by decide)
          obtain ⟨hin, hb, hw⟩ := hw
          subst hb
          refine r_ast (I1 := I) (A1 := uA A t o i.toNatClampNeg) hC hv0 hvb0 hR hS (cellE_fix ht) ?_ (fun a b h => cellE_congr rfl (fun _ => rfl) (uA_ne h)) hin hdg (fun H1 locs1 g1 g2 => kk _ _ _ _ hw g1 g2 hN0 hN1 (Nat.le_refl _) hvr)
          rw [cellE_fix ht]
          congr 7
          funext q
          by_cases hq : q = i.toNatClampNeg
          · subst hq
            simp [va_up, uA]
          · simp [va_up, uA, hq]
        · rename_i w ht
          have hv0 := vld_obj hvt ht (show (5 : Nat) ≠ 99 by decide)
          obtain ⟨hin, hw⟩ := hw
          refine r_ast (I1 := uI I t o i.toNatClampNeg (nI b)) (A1 := uA A t o i.toNatClampNeg) hC hv0 hvb0 hR hS (cellE_dyn ht) ?_ (fun a b h => cellE_congr (uI_ne h) (fun _ => rfl) (uA_ne h)) hin hdg (fun H1 locs1 g1 g2 => kk _ _ _ _ hw g1 g2 hN0 hN1 (Nat.le_refl _) hvr)
          rw [cellE_dyn ht]
          congr 7
          funext q
          by_cases hq : q = i.toNatClampNeg
          · subst hq
            have hb12 := book_lt hvb0
            simp [va_up, uA, uI, nI_clamp (show b < 2 ^ 31 by omega)]
          · simp [va_up, uA, uI, hq]
        · exact hw.elim
      · exact hw.elim
    · exact hw.elim
  case arraylength =>
    simp only [chk, decide_eq_true_eq] at hk
    subst hk
    simp only [whp] at hw
    split at hw
    · rename_i t o r
      have hvt := vok_head hst
      have hvr := vok_tail hst
      split at hw
      · rename_i w ht
        exact r_len (ty0 := 0) (ty := .int) hC (vld_obj hvt ht (show (1 : Nat) ≠ 99 by decide)) hR (cellE_int ht) rfl hdg (kk _ _ _ _ hw hR hS hN0 hN1 (Nat.le_refl _) (vok_cons (a := vi _) trivial hvr))
      · rename_i w ht
        have h14 := t14 t (tinfo_lt ht (show (3 : Nat) ≠ 99 by decide)) (by rw [ht])
        subst h14
        exact r_len (ty0 := 2) (ty := .long) hC (vld_obj hvt ht (show (3 : Nat) ≠ 99 by decide)) hR cellE_long rfl hdg (kk _ _ _ _ hw hR hS hN0 hN1 (Nat.le_refl _) (vok_cons (a := vi _) trivial hvr))
      · rename_i w ht
        have hvs := vld_st hvt ht
        split at hw
        · rename_i ht65
          have ht' : t = 65 := Nat.eq_of_beq_eq_true ht65
          subst ht'
          have ho : o = 0 := by
            rcases hvs with ⟨-, -, h⟩ | ⟨h, -⟩
            · exact h
            · omega
          subst ho
          split at hw
          · rename_i L xs
            obtain ⟨hX1, hX2⟩ := hX
            rw [← hX1] at hw
            exact r_scl hC hS hdg (kk _ _ _ _ hw hR hS hN0 hN1 (Nat.le_refl _) (vok_cons (a := vi _) trivial hvr))
          · exact hw.elim
        · split at hw
          · rename_i ht67
            have ht' : t = 67 := Nat.eq_of_beq_eq_true ht67
            subst ht'
            have ho : o < 9 := by
              rcases hvs with ⟨h1, h2, -⟩ | ⟨-, -, h⟩
              · omega
              · exact h
            exact r_sbl hC hS ho hdg (kk _ _ _ _ hw hR hS hN0 hN1 (Nat.le_refl _) (vok_cons (a := vi _) trivial hvr))
          · exact hw.elim
      · exact hw.elim
    · exact hw.elim
  case new idx =>
    simp only [chk, decide_eq_true_eq] at hk
    subst hk
    simp only [whp] at hw
    split at hw
    · rename_i ci pl hal
      have hf := List.all_eq_true.mp pC _ (alook_mem _ _ _ hal)
      obtain ⟨t, o, h1, h2, h3, hw⟩ := hw
      exact r_new hC hf hR hS h1 h2 hN0 h3 hdg (fun H1 g1 g2 => kk _ _ _ _ hw g1 g2 (by show N0 ≤ n + 1; omega) h3 (by show n ≤ n + 1; omega) (vok_cons (Or.inl ⟨n, Nat.lt_succ_self n, by show n + 1 ≤ 117; exact g1.2.2, h1⟩) (fun b hb => (hst b hb).mono (by show n ≤ n + 1; omega) g1.2.2)))
    · exact hw.elim
  case newarray ty =>
    simp only [chk, decide_eq_true_eq] at hk
    subst hk
    simp only [whp] at hw
    split at hw
    · rename_i cn r
      have hvr := vok_tail hst
      split at hw
      · obtain ⟨t, o, w, h1, h2, h3, h4, hw⟩ := hw
        have hw3 := tinfo_small t (tinfo_lt h2 (show (1 : Nat) ≠ 99 by decide))
        rw [h2] at hw3
        exact r_newa (at0 := .int) (ty0 := 0) (z := (w, .inl (fun _ => 0))) (I1 := zI I t o) (J1 := J) hC ac_int hR hS h1 (tlen_len h2 (by decide) (by decide)) (by omega) h3 rfl (fun C h => by cases h) (by rw [cellE_int h2]; congr 4; funext q; simp [zI]) (fun cA => rfl) (by show w * 4 ≤ _; omega) (fun a b h => cellE_congr (zI_ne h) (fun _ => rfl) rfl) hN0 h4 hdg (fun H1 g1 g2 => kk _ _ _ _ hw g1 g2 (by show N0 ≤ n + 1; omega) h4 (by show n ≤ n + 1; omega) (vok_cons (Or.inl ⟨n, Nat.lt_succ_self n, by show n + 1 ≤ 117; exact g1.2.2, h1⟩) (fun b hb => (hvr b hb).mono (by show n ≤ n + 1; omega) g1.2.2)))
      · obtain ⟨t, o, w, h1, h2, h3, h4, hw⟩ := hw
        have hw3 := tinfo_small t (tinfo_lt h2 (show (2 : Nat) ≠ 99 by decide))
        rw [h2] at hw3
        exact r_newa (at0 := .boolean) (ty0 := 1) (z := (w, .inl (fun _ => 0))) (I1 := zI I t o) (J1 := J) hC ac_bool hR hS h1 (tlen_len h2 (by decide) (by decide)) (by omega) h3 rfl (fun C h => by cases h) (by rw [cellE_bool h2]; congr 4; funext q; simp [zI]) (fun cA => rfl) (by show w * 1 ≤ _; omega) (fun a b h => cellE_congr (zI_ne h) (fun _ => rfl) rfl) hN0 h4 hdg (fun H1 g1 g2 => kk _ _ _ _ hw g1 g2 (by show N0 ≤ n + 1; omega) h4 (by show n ≤ n + 1; omega) (vok_cons (Or.inl ⟨n, Nat.lt_succ_self n, by show n + 1 ≤ 117; exact g1.2.2, h1⟩) (fun b hb => (hvr b hb).mono (by show n ≤ n + 1; omega) g1.2.2)))
      · obtain ⟨o, h1, h3, h4, hw⟩ := hw
        have hw3 : tlen 14 o ≤ 300 := by
          unfold tlen
          simp only
          split <;> omega
        exact r_newa (at0 := .long) (ty0 := 2) (t := 14) (w := tlen 14 o) (z := (tlen 14 o, .inr (.inl (fun _ => 0)))) (I1 := I) (J1 := zJ J o) hC ac_long hR hS h1 (by simp only [szOf, t14i]) (by omega) h3 rfl (fun C h => by cases h) (by rw [cellE_long]; congr 5; funext q; simp [zJ]) (fun cA => rfl) (by show tlen 14 o * 8 ≤ _; omega) (fun a b h => cellE_congr rfl (fun h14 => by
          have hb2 : b ≠ o := fun hq => h (by rw [h14, hq])
          funext q
          simp [zJ, hb2]) rfl) hN0 h4 hdg (fun H1 g1 g2 => kk _ _ _ _ hw g1 g2 (by show N0 ≤ n + 1; omega) h4 (by show n ≤ n + 1; omega) (vok_cons (Or.inl ⟨n, Nat.lt_succ_self n, by show n + 1 ≤ 117; exact g1.2.2, h1⟩) (fun b hb => (hvr b hb).mono (by show n ≤ n + 1; omega) g1.2.2)))
      · exact hw.elim
    · exact hw.elim
  case anewarray idx =>
    simp only [chk, decide_eq_true_eq] at hk
    subst hk
    simp only [whp] at hw
    split at hw
    · rename_i ci pl hal
      have hf := List.all_eq_true.mp pC _ (alook_mem _ _ _ hal)
      split at hw
      · rename_i hci
        have hci' : ci = 1 := Nat.eq_of_beq_eq_true hci
        subst hci'
        simp only [okC] at hf
        have hvc : vwCl[1]? = some (RX1, TX1, 5) := rfl
        rw [hvc] at hf
        simp only [Bool.and_eq_true, decide_eq_true_eq] at hf
        split at hw
        · rename_i cn r
          have hvr := vok_tail hst
          obtain ⟨t, o, w, kd, h1, h2, h45, h3, h4, hw⟩ := hw
          have hk99 : kd ≠ 99 := by omega
          have hw3 := tinfo_small t (tinfo_lt h2 hk99)
          rw [h2] at hw3
          refine r_newb (I1 := zI I t o) (A1 := zA A t o) (w := w) hC (inG hf.1.1 rfl) hR hS h1 (tlen_len h2 (by omega) (by omega)) (by omega) h3 ?_ (fun a b h => cellE_congr (zI_ne h) (fun _ => rfl) (zA_ne h)) hN0 h4 hdg (fun H1 g1 g2 => kk _ _ _ _ hw g1 g2 (by show N0 ≤ n + 1; omega) h4 (by show n ≤ n + 1; omega) (vok_cons (Or.inl ⟨n, Nat.lt_succ_self n, by show n + 1 ≤ 117; exact g1.2.2, h1⟩) (fun b hb => (hvr b hb).mono (by show n ≤ n + 1; omega) g1.2.2)))
          rcases h45 with rfl | rfl
          · rw [cellE_fix h2]
            congr 7
            funext q
            simp [zA]
          · rw [cellE_dyn h2]
            congr 7
            funext q
            simp [zA]
        · exact hw.elim
      · exact hw.elim
    · exact hw.elim
  case getstatic idx =>
    simp only [chk, decide_eq_true_eq] at hk
    subst hk
    simp only [whp] at hw
    split at hw
    · rename_i t nest pl hal
      have hf := List.all_eq_true.mp pS _ (alook_mem _ _ _ hal)
      refine r_gst hC hf hS hdg ?_ (fun h68 => by subst h68; exact kk (.inr (.inr none) :: _) _ _ _ hw.2 hR hS hN0 hN1 (Nat.le_refl _) (vok_cons (a := .inr (.inr none)) trivial hst))
      unfold gsv
      cases ht : Nat.beq t 59 with
      | true =>
        rw [ht] at hw
        exact kk _ _ _ _ hw hR hS hN0 hN1 (Nat.le_refl _) (vok_cons (a := vi 1) trivial hst)
      | false =>
        rw [ht] at hw
        cases ht2 : Nat.beq t 68 with
        | true =>
          have h68 : t = 68 := Nat.eq_of_beq_eq_true ht2
          subst h68
          exact kk _ _ _ _ hw.1 hR hS hN0 hN1 (Nat.le_refl _) (vok_cons (Or.inr (Or.inr ⟨by decide, by decide, by decide⟩)) hst)
        | false =>
          rw [ht2] at hw
          simp only [okS, ht, ht2, Bool.and_eq_true, decide_eq_true_eq] at hf
          exact kk _ _ _ _ hw hR hS hN0 hN1 (Nat.le_refl _) (vok_cons (Or.inr (Or.inl ⟨hf.1.1, by omega, rfl⟩)) hst)
    · exact hw.elim
  case ldc2_w idx =>
    simp only [chk, decide_eq_true_eq] at hk
    subst hk
    simp only [whp] at hw
    split at hw
    · rename_i v pl hal
      have hf := List.all_eq_true.mp pL _ (alook_mem _ _ _ hal)
      simp only [okL, Bool.and_eq_true, decide_eq_true_eq] at hf
      obtain ⟨hx, hb, hml, hown, hts, -⟩ := hC
      exact lv_ldc2 hx hb hown (hts _ (inG hf.1 hf.2)) hdg (kk _ _ _ _ hw hR hS hN0 hN1 (Nat.le_refl _) (vok_cons (a := vl _) trivial hst))
    · exact hw.elim
  case ldc_w idx =>
    simp only [chk, decide_eq_true_eq] at hk
    subst hk
    simp only [whp] at hw
    split at hw
    · rename_i v pl hal
      have hf := List.all_eq_true.mp pI _ (alook_mem _ _ _ hal)
      simp only [okI, Bool.and_eq_true, decide_eq_true_eq] at hf
      obtain ⟨hx, hb, hml, hown, hts, -⟩ := hC
      exact lv_ldcw hx hb hown (hts _ (inG hf.1 hf.2)) hdg (kk _ _ _ _ hw hR hS hN0 hN1 (Nat.le_refl _) (vok_cons (a := vi _) trivial hst))
    · exact hw.elim
  case ldc idx =>
    simp only [chk, decide_eq_true_eq] at hk
    subst hk
    simp only [whp] at hw
    split at hw
    · rename_i i hal
      have hf := List.all_eq_true.mp pT _ (alook_mem _ _ _ hal)
      simp only [okT, Bool.and_eq_true, decide_eq_true_eq] at hf
      obtain ⟨hx, hb, hml, hown, hts, hini, hKK, -⟩ := hC
      have hz := hKK.2.2.2.2.2.1 i hf.1.2
      rw [hf.2, ← hf.1.1] at hz
      have h2 := kk _ _ _ _ hw hR hS hN0 hN1 (Nat.le_refl _) (vok_cons (a := vr 66 i) (Or.inr (Or.inr ⟨by omega, by omega, hf.1.2⟩)) hst)
      refine va_ldcS hx hb hown hz hdg ?_
      rw [← adr_st (E := E) (t := 66) (k := i) (by omega)]
      exact h2
    · exact hw.elim
  case idiv =>
    simp only [chk, decide_eq_true_eq] at hk
    subst hk
    simp only [whp] at hw
    split at hw
    · obtain ⟨hx, hb, -⟩ := hC
      exact lv_idiv hx hb hdg hw.1 (kk _ _ _ _ hw.2 hR hS hN0 hN1 (Nat.le_refl _) (vok_cons (a := vi _) trivial (vok_tail (vok_tail hst))))
    · exact hw.elim
  case irem =>
    simp only [chk, decide_eq_true_eq] at hk
    subst hk
    simp only [whp] at hw
    split at hw
    · obtain ⟨hx, hb, -⟩ := hC
      exact lv_irem hx hb hdg hw.1 (kk _ _ _ _ hw.2 hR hS hN0 hN1 (Nat.le_refl _) (vok_cons (a := vi _) trivial (vok_tail (vok_tail hst))))
    · exact hw.elim
  all_goals exact (hw : False).elim
end SOUND6
