/-! SOUNDNESS, 3: the store -/
theorem cellE_obj {E : EV} {t k ci : Nat} {I : SI} {J : SJ} {A : SA} (h : nthD tinfo t (99, 0) = (0, ci)) : cellE E t k I J A = .inr (ci, (List.range (nthD ftab ci []).length).map (fval E ci t k I A)) := by
  simp only [cellE, h]
theorem cellE_int {E : EV} {t k m : Nat} {I : SI} {J : SJ} {A : SA} (h : nthD tinfo t (99, 0) = (1, m)) : cellE E t k I J A = .inl (eC E 0, m, .inl (I t k)) := by
  simp only [cellE, h]
theorem cellE_bool {E : EV} {t k m : Nat} {I : SI} {J : SJ} {A : SA} (h : nthD tinfo t (99, 0) = (2, m)) : cellE E t k I J A = .inl (eC E 1, m, .inl (I t k)) := by
  simp only [cellE, h]
theorem t14i : nthD tinfo 14 (99, 0) = (3, 0) := rfl
theorem cellE_long {E : EV} {k : Nat} {I : SI} {J : SJ} {A : SA} : cellE E 14 k I J A = .inl (eC E 2, tlen 14 k, .inr (.inl (J k))) := by
  simp only [cellE, t14i]
theorem cellE_fix {E : EV} {t k m : Nat} {I : SI} {J : SJ} {A : SA} (h : nthD tinfo t (99, 0) = (4, m)) : cellE E t k I J A = .inl (eC E 3, m, .inr (.inr (.inr (.inr (fun j => if A t k j = true then some (adr E 3 (10 + j)) else none))))) := by
  simp only [cellE, h]
theorem cellE_dyn {E : EV} {t k m : Nat} {I : SI} {J : SJ} {A : SA} (h : nthD tinfo t (99, 0) = (5, m)) : cellE E t k I J A = .inl (eC E 3, m, .inr (.inr (.inr (.inr (fun j => if A t k j = true then some (adr E 3 (I t k j).toNatClampNeg) else none))))) := by
  simp only [cellE, h]
theorem cellE_rows {E : EV} {t k m : Nat} {I : SI} {J : SJ} {A : SA} (h : nthD tinfo t (99, 0) = (6, m)) : cellE E t k I J A = .inl (eC E 4, m, .inr (.inr (.inr (.inr (fun j => if j < m then some (adr E 10 (5 * k + j)) else none))))) := by
  simp only [cellE, h]
theorem fs_get {E : EV} {ci t k j : Nat} {I : SI} {A : SA} (hj : j < (nthD ftab ci []).length) : ((List.range (nthD ftab ci []).length).map (fval E ci t k I A))[j]? = some (fval E ci t k I A j) := by
  simp [hj]
theorem fs_set {E : EV} {ci t k j : Nat} {I I1 : SI} {A A1 : SA} {v : Value} (hv : fval E ci t k I1 A1 j = v) (hne : ∀ i, i ≠ j → fval E ci t k I1 A1 i = fval E ci t k I A i) : ((List.range (nthD ftab ci []).length).map (fval E ci t k I A)).set j v = (List.range (nthD ftab ci []).length).map (fval E ci t k I1 A1) := by
  apply List.ext_getElem?
  intro i
  by_cases hi : i < (nthD ftab ci []).length
  · by_cases e : i = j
    · subst e
      rw [List.getElem?_set_self (by simpa using hi), fs_get hi, hv]
    · rw [List.getElem?_set_ne (Ne.symm e), fs_get hi, fs_get hi, hne i e]
  · rw [List.getElem?_eq_none (by simpa using hi), List.getElem?_eq_none (by simpa using hi)]
theorem fval_int {E : EV} {ci t k j : Nat} {I : SI} {A : SA} (hj : j < (nthD ftab ci []).length) (h : (nthD (nthD ftab ci []) j (9, 0, 0)).1 ≠ 2) : fval E ci t k I A j = .int (I t k j) := by
  unfold fval
  rw [nthD_eq (0, 0, 0) (9, 0, 0) hj]
  split
  · rename_i h1
    rw [h1] at h
    exact absurd rfl h
  · rfl
theorem fval_ref {E : EV} {ci t k j t1 cd : Nat} {I : SI} {A : SA} (hj : j < (nthD ftab ci []).length) (h : nthD (nthD ftab ci []) j (9, 0, 0) = (2, t1, cd)) : fval E ci t k I A j = if A t k j = true then .ref (adr E t1 (rtg cd k)) else .null := by
  unfold fval
  rw [nthD_eq (0, 0, 0) (9, 0, 0) hj, h]
  rfl
theorem okF_link {own : String} {idx ci j pl : Nat} {nest : Bool} (h : okF own (idx, ci, j, nest, pl) = true) (hci : Nat.beq ci 100 = false) : ∃ C T N, vwCl[ci]? = some (C, T, N) ∧ j < N ∧ (T j).1 = C ∧ ((nest = true ∧ Cond.fieldLinkNest own idx C (T j).2.1 (T j).2.2.1 "OutcropAges" ∈ nestW) ∨ (nest = false ∧ Cond.fieldLink own idx C (T j).2.1 (T j).2.2.1 ∈ gw)) ∧ (nest = false → C = own) := by
  simp only [okF, hci] at h
  cases hv : vwCl[ci]? with
  | none => rw [hv] at h; cases h
  | some q =>
    obtain ⟨C, T, N⟩ := q
    rw [hv] at h
    simp only [Bool.and_eq_true, decide_eq_true_eq] at h
    obtain ⟨⟨⟨h1, h2⟩, h3⟩, h4⟩ := h
    refine ⟨C, T, N, rfl, h1, h3, ?_⟩
    cases nest with
    | true =>
      rw [if_pos rfl] at h2
      exact ⟨Or.inl ⟨rfl, inN (of_decide_eq_true h2) rfl⟩, fun h => by cases h⟩
    | false =>
      rw [if_neg (by decide), Bool.and_eq_true] at h2
      exact ⟨Or.inr ⟨rfl, inG (of_decide_eq_true h2.1) h2.2⟩, fun _ => of_decide_eq_true (by simpa using h4)⟩
section SOUND2
variable {E : EV} {M : MD} {d N0 N1 : Nat} {p : Program} {e : Env} {R : Room} {s : State} {m : MethodId} {args : Array Value} {below : List Frame} {meth : Method} {c : Code} {H : Heap} {locs : List Loc} {cells slots : Nat} {Z : State → Prop} {pc : Nat} {la : Array Slot} {I : SI} {J : SJ} {n : Nat} {A : SA} {rest : List Value}
theorem Rep.D {H : Heap} (_ : Rep E H (I, J, n, A)) : va_D (eA E) (wsO E (I, J, n, A)) := wsO_D
theorem r_get {idx ci j t o pl : Nat} {nest : Bool} (hC : Ctx E M d N0 N1 R p s m meth c args) (hf : okF (mP M).1 (idx, ci, j, nest, pl) = true) (hci : Nat.beq ci 100 = false) (ht : nthD tinfo t (99, 0) = (0, ci)) (hv : vld0 n t o) (hR : Rep E H (I, J, n, A)) (hdg : decode (mY M).2.1 pc = .ok (.getfield idx, 3))
    (kk : W p (eL E) e R s m args below meth c H locs cells slots Z (F0 m (pc + 3) la (fval E ci t o I A j :: rest))) : W p (eL E) e R s m args below meth c H locs cells slots Z (F0 m pc la (.ref (adr E t o) :: rest)) := by
  obtain ⟨hx, hb, hml, hown, hts, hini, hKK, -⟩ := hC
  obtain ⟨C, T, N, h1, h2, h3, h4, h4o⟩ := okF_link hf hci
  obtain ⟨f1, f2, -⟩ := cls_ok h1
  have he : (wsO E (I, J, n, A))[off t o]? = some (adr E t o, .inr (ci, (List.range (nthD ftab ci []).length).map (fval E ci t o I A))) := by
    rw [Rep_at (H := H) hv, cellE_obj ht]
  rcases h4 with ⟨-, h4⟩ | ⟨-, h4⟩
  · exact va_getN (D := eD E) (ci := ci) (v := fval E ci t o I A j) (C := C) (T := T) (N := N) hx hb hts f2 hown hKK.1 hR.1 (off t o) he h1 j h2 (va_Nw.use rfl (hKK.2.1 _ h4)) (fun x hx => by rw [h3] at hx; exact hx) (fs_get (by rw [← f1]; exact h2)) hdg kk
  · exact va_get (D := eD E) (ci := ci) (v := fval E ci t o I A j) (C := C) (T := T) (N := N) hx hb hts f2 hown hKK.1 hR.1 (off t o) he h1 j h2 (hts _ h4) (fun x hx => by rw [h3] at hx; exact hx) (fs_get (by rw [← f1]; exact h2)) hdg kk
theorem Rep.of_set {H1 : Heap} {I1 : SI} {J1 : SJ} {A1 : SA} {t o : Nat} (hR : Rep E H (I, J, n, A)) (hv : vld0 n t o) (hne : ∀ a b, (a, b) ≠ (t, o) → cellE E a b I1 J1 A1 = cellE E a b I J A) (hz : H1.size = H.size) (he : va_at (eD E) vwCl (adr E t o, cellE E t o I1 J1 A1) H1) (oq : ∀ q : Nat, q ≠ adr E t o → H1[q]? = H[q]?) : Rep E H1 (I1, J1, n, A1) := by
  have h := hR.1.set (e := cellE E t o I1 J1 A1) wsO_D (Rep_at (H := H) hv) he oq
  rw [wsO_set hv hne] at h
  exact ⟨h, fun hn => by rw [hz]; exact hR.2.1 hn, hR.2.2⟩
theorem adr_in {t o : Nat} (hv : vld0 n t o) : eA E (adr E t o) := by
  obtain ⟨h1, h2, h3⟩ := vld0_at hv
  show eB E ≤ adr E t o
  unfold adr
  rw [if_pos h3]
  omega
theorem r_put {idx ci j t o pl : Nat} {nest : Bool} {I1 : SI} {A1 : SA} {v : Value} {ty : FieldType} (hC : Ctx E M d N0 N1 R p s m meth c args) (hf : okF (mP M).1 (idx, ci, j, nest, pl) = true) (hci : Nat.beq ci 100 = false) (ht : nthD tinfo t (99, 0) = (0, ci)) (hv : vld0 n t o) (hR : Rep E H (I, J, n, A)) (hS : va_S (eA E) s.heap H locs)
    (hd : ∀ C T N, vwCl[ci]? = some (C, T, N) → parseFieldDescriptor (T j).2.2.1 = some ty ∧ (T j).2.2.2 = false) (hn : narrow ty v = v) (hfit : fits ty v = true) (hv1 : fval E ci t o I1 A1 j = v) (hne : ∀ i, i ≠ j → fval E ci t o I1 A1 i = fval E ci t o I A i) (hoth : ∀ a b, (a, b) ≠ (t, o) → cellE E a b I1 J A1 = cellE E a b I J A) (hdg : decode (mY M).2.1 pc = .ok (.putfield idx, 3))
    (kk : ∀ H1 locs1, Rep E H1 (I1, J, n, A1) → va_S (eA E) s.heap H1 locs1 → W p (eL E) e R s m args below meth c H1 locs1 cells slots Z (F0 m (pc + 3) la rest)) : W p (eL E) e R s m args below meth c H locs cells slots Z (F0 m pc la (v :: .ref (adr E t o) :: rest)) := by
  obtain ⟨hx, hb, hml, hown, hts, hini, hKK, -⟩ := hC
  obtain ⟨C, T, N, h1, h2, h3, h4, h4o⟩ := okF_link hf hci
  obtain ⟨f1, f2, ⟨ty0, f3, -⟩, f4, f5⟩ := cls_ok h1
  obtain ⟨hd1, hd2⟩ := hd C T N h1
  have he : (wsO E (I, J, n, A))[off t o]? = some (adr E t o, .inr (ci, (List.range (nthD ftab ci []).length).map (fval E ci t o I A))) := by
    rw [Rep_at (H := H) hv, cellE_obj ht]
  have hap := va_apart (own := C) (D := eD E) hts f2 ty0 f3 f4 hKK.1 h1
  obtain ⟨r, g1, cell, q1, q2, q3, q4⟩ := hR.1 (off t o) _ he
  have hr : r = (C, T, N) := Option.some.inj (g1.symm.trans h1)
  subst hr
  obtain ⟨hSl, hfc, kC, hkC, hkind⟩ := hKK.1.1 ci _ h1
  obtain ⟨cf, kf, fi, f, hi, hsl⟩ := hSl j h2
  have hlay := hts _ (f2 _ (u_in_lay h2))
  unfold u_lay at hlay
  rw [if_neg (by rw [hd2]; decide)] at hlay
  have hst := (u_facts hfc hkC (u_lays hts f2 h2) hi).1
  have h6 := u_store hfc hkC hkind hlay hi hd1 hn hfit
  have hi2 : s.fieldFound? C (T j).2.1 (T j).2.2.1 = some (cf, kf, fi, f) := by
    have hi3 := hi
    rw [h3] at hi3
    exact hi3
  have fin : ∀ H' : Heap, H'[adr E t o]? = some (cell.setSlot f.slot v) → H'.size = H.size → (∀ q, q ≠ adr E t o → H'[q]? = H[q]?) → W p (eL E) e R s m args below meth c H' (locs ++ [⟨adr E t o, f.slot⟩]) cells slots Z (F0 m (pc + 3) la rest) := by
    intro H' e1 e2 e3
    rw [hsl] at e1
    refine kk H' _ (hR.of_set hv hoth e2 ?_ e3) (hS.put e2 e3 (adr_in hv))
    rw [cellE_obj ht]
    refine ⟨_, h1, ?_⟩
    have hj : j < (nthD ftab ci []).length := by rw [← f1]; exact h2
    have hl : j < ((List.range (nthD ftab ci []).length).map (fval E ci t o I A)).length := by simpa using hj
    have hz := t_OB.to (V := updV (vp_V ((List.range (nthD ftab ci []).length).map (fval E ci t o I A))) j v) ⟨_, e1, q2, q3, t_set q4 hap h2 v⟩ (fun i _ => vp_updV_set hl v i)
    rw [fs_set hv1 hne] at hz
    exact hz
  rcases h4 with ⟨-, h4⟩ | ⟨-, h4⟩
  · exact va_WputK hx hb (f := f) hown (va_Nw.use rfl (hKK.2.1 _ h4)) hi2 hst (by rw [q2]; exact h6) q1 q3 (by rw [hsl]; exact k2_hasslot (q4 j h2)) rfl rfl hdg fin
  · exact W.putK hx hb (f := f) ⟨hown, hts _ h4, ⟨_, _, _, hi2⟩, hst⟩ (by rw [q2]; exact h6) q1 q3 (by rw [hsl]; exact k2_hasslot (q4 j h2)) rfl rfl hdg fin
theorem r_putF {idx ci j t o pl : Nat} {nest : Bool} {A1 : SA} {v : Value} {ty : FieldType} (hC : Ctx E M d N0 N1 R p s m meth c args) (hin : mI M = true) (hf : okF (mP M).1 (idx, ci, j, nest, pl) = true) (hci : Nat.beq ci 100 = false) (ht : nthD tinfo t (99, 0) = (0, ci)) (hv : vld0 n t o) (hR : Rep E H (I, J, n, A)) (hS : va_S (eA E) s.heap H locs)
    (hd : ∀ C T N, vwCl[ci]? = some (C, T, N) → parseFieldDescriptor (T j).2.2.1 = some ty ∧ (T j).2.2.2 = true) (hnest : nest = false) (hn : narrow ty v = v) (hfit : fits ty v = true) (hv1 : fval E ci t o I A1 j = v) (hne : ∀ i, i ≠ j → fval E ci t o I A1 i = fval E ci t o I A i) (hoth : ∀ a b, (a, b) ≠ (t, o) → cellE E a b I J A1 = cellE E a b I J A) (hdg : decode (mY M).2.1 pc = .ok (.putfield idx, 3))
    (kk : ∀ H1 locs1, Rep E H1 (I, J, n, A1) → va_S (eA E) s.heap H1 locs1 → W p (eL E) e R s m args below meth c H1 locs1 cells slots Z (F0 m (pc + 3) la rest)) : W p (eL E) e R s m args below meth c H locs cells slots Z (F0 m pc la (v :: .ref (adr E t o) :: rest)) := by
  obtain ⟨hx, hb, hml, hown, hts, hini, hKK, -⟩ := hC
  obtain ⟨C, T, N, h1, h2, h3, h4, h4o⟩ := okF_link hf hci
  obtain ⟨f1, f2, ⟨ty0, f3, -⟩, f4, f5⟩ := cls_ok h1
  obtain ⟨hd1, hd2⟩ := hd C T N h1
  have hd3 := h4o hnest
  have he : (wsO E (I, J, n, A))[off t o]? = some (adr E t o, .inr (ci, (List.range (nthD ftab ci []).length).map (fval E ci t o I A))) := by
    rw [Rep_at (H := H) hv, cellE_obj ht]
  have hap := va_apart (own := C) (D := eD E) hts f2 ty0 f3 f4 hKK.1 h1
  obtain ⟨r, g1, cell, q1, q2, q3, q4⟩ := hR.1 (off t o) _ he
  have hr : r = (C, T, N) := Option.some.inj (g1.symm.trans h1)
  subst hr
  obtain ⟨hSl, hfc, kC, hkC, hkind⟩ := hKK.1.1 ci _ h1
  obtain ⟨cf, kf, fi, f, hi, hsl⟩ := hSl j h2
  have hlay := hts _ (f2 _ (u_in_lay h2))
  unfold u_lay at hlay
  rw [if_pos hd2] at hlay
  have hst := (u_facts hfc hkC (u_lays hts f2 h2) hi).1
  have hcf : m.cls = cf := by
    obtain ⟨_, _, c', _, _, _, -, -, hf', -, -, -, hown2, -⟩ := Cond.laysFinal_spec hlay
    have e1 : c' = cf := by have := hi.symm.trans hf'; simp at this; exact this.1.symm
    rw [h3, hd3] at hown2
    rw [← e1]; exact Option.some.inj (hown.symm.trans hown2)
  have h6 := u_fits hfc hkC hkind (Or.inr hlay) hi hd1 hn hfit
  have hi2 : s.fieldFound? C (T j).2.1 (T j).2.2.1 = some (cf, kf, fi, f) := by
    have hi3 := hi
    rw [h3] at hi3
    exact hi3
  rcases h4 with ⟨h4, -⟩ | ⟨-, h4⟩
  · rw [hnest] at h4; cases h4
  refine W.putFinK hx hb hown (hts _ h4) hi2 hst hcf (hini hin) (by rw [q2]; exact h6) q1 q3 (by rw [hsl]; exact k2_hasslot (q4 j h2)) rfl rfl hdg fun H' e1 e2 e3 => ?_
  rw [hsl] at e1
  refine kk H' _ (hR.of_set hv hoth e2 ?_ e3) (hS.put e2 e3 (adr_in hv))
  rw [cellE_obj ht]
  refine ⟨_, h1, ?_⟩
  have hj : j < (nthD ftab ci []).length := by rw [← f1]; exact h2
  have hl : j < ((List.range (nthD ftab ci []).length).map (fval E ci t o I A)).length := by simpa using hj
  have hz := t_OB.to (V := updV (vp_V ((List.range (nthD ftab ci []).length).map (fval E ci t o I A))) j v) ⟨_, e1, q2, q3, t_set q4 hap h2 v⟩ (fun i _ => vp_updV_set hl v i)
  rw [fs_set hv1 hne] at hz
  exact hz
end SOUND2
