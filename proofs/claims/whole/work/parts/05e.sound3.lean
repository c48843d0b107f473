/-! SOUNDNESS, 4: arrays, statics, new things -/
section SOUND3
variable {E : EV} {M : MD} {d N0 N1 : Nat} {p : Program} {e : Env} {R : Room} {s : State} {m : MethodId} {args : Array Value} {below : List Frame} {meth : Method} {c : Code} {H : Heap} {locs : List Loc} {cells slots : Nat} {Z : State → Prop} {pc : Nat} {la : Array Slot} {I : SI} {J : SJ} {n : Nat} {A : SA} {rest : List Value}
theorem r_ild {t o w : Nat} {i : Int32} (hC : Ctx E M d N0 N1 R p s m meth c args) (ht : nthD tinfo t (99, 0) = (1, w)) (hv : vld0 n t o) (hR : Rep E H (I, J, n, A)) (hin : vp_in i w) (hdg : decode (mY M).2.1 pc = .ok (.iaload, 1))
    (kk : W p (eL E) e R s m args below meth c H locs cells slots Z (F0 m (pc + 1) la (.int (I t o i.toNatClampNeg) :: rest))) : W p (eL E) e R s m args below meth c H locs cells slots Z (F0 m pc la (.int i :: .ref (adr E t o) :: rest)) := by
  obtain ⟨hx, hb, hml, hown, hts, hini, hKK, -⟩ := hC
  exact va_iald (D := eD E) hx hb hKK.1 hR.1 (off t o) 0 (by rw [Rep_at (H := H) hv, cellE_int ht]) rfl hin hdg kk
theorem r_zld {t o w : Nat} {i : Int32} (hC : Ctx E M d N0 N1 R p s m meth c args) (ht : nthD tinfo t (99, 0) = (2, w)) (hv : vld0 n t o) (hR : Rep E H (I, J, n, A)) (hin : vp_in i w) (hdg : decode (mY M).2.1 pc = .ok (.baload, 1))
    (kk : W p (eL E) e R s m args below meth c H locs cells slots Z (F0 m (pc + 1) la (.int (I t o i.toNatClampNeg) :: rest))) : W p (eL E) e R s m args below meth c H locs cells slots Z (F0 m pc la (.int i :: .ref (adr E t o) :: rest)) := by
  obtain ⟨hx, hb, hml, hown, hts, hini, hKK, -⟩ := hC
  exact va_zald (D := eD E) hx hb hKK.1 hR.1 (off t o) 1 (by rw [Rep_at (H := H) hv, cellE_bool ht]) rfl hin hdg kk
theorem r_lld {o : Nat} {i : Int32} (hC : Ctx E M d N0 N1 R p s m meth c args) (hv : vld0 n 14 o) (hR : Rep E H (I, J, n, A)) (hin : vp_in i (tlen 14 o)) (hdg : decode (mY M).2.1 pc = .ok (.laload, 1))
    (kk : W p (eL E) e R s m args below meth c H locs cells slots Z (F0 m (pc + 1) la (.long (J o i.toNatClampNeg) :: rest))) : W p (eL E) e R s m args below meth c H locs cells slots Z (F0 m pc la (.int i :: .ref (adr E 14 o) :: rest)) := by
  obtain ⟨hx, hb, hml, hown, hts, hini, hKK, -⟩ := hC
  exact va_lald (D := eD E) hx hb hKK.1 hR.1 (off 14 o) 2 (by rw [Rep_at (H := H) hv, cellE_long]) rfl hin hdg kk
theorem r_ist {t o w : Nat} {i x : Int32} (hC : Ctx E M d N0 N1 R p s m meth c args) (ht : nthD tinfo t (99, 0) = (1, w)) (hv : vld0 n t o) (hR : Rep E H (I, J, n, A)) (hS : va_S (eA E) s.heap H locs) (hin : vp_in i w) (hdg : decode (mY M).2.1 pc = .ok (.iastore, 1))
    (kk : ∀ H1 locs1, Rep E H1 (uI I t o i.toNatClampNeg x, J, n, A) → va_S (eA E) s.heap H1 locs1 → W p (eL E) e R s m args below meth c H1 locs1 cells slots Z (F0 m (pc + 1) la rest)) : W p (eL E) e R s m args below meth c H locs cells slots Z (F0 m pc la (.int x :: .int i :: .ref (adr E t o) :: rest)) := by
  obtain ⟨hx, hb, hml, hown, hts, hini, hKK, -⟩ := hC
  have ha : (wsO E (I, J, n, A))[off t o]? = some (adr E t o, .inl (eC E 0, w, .inl (I t o))) := by rw [Rep_at (H := H) hv, cellE_int ht]
  refine W.iast hx hb (hR.1 _ _ ha) ((hKK.1.2 0 _ rfl).1 w (fun j => .int (I t o j))) (fun q => by cases q) (by show ¬ (i < 0 ∨ (arrV _ _ _).slots.size ≤ _); rw [arrV_size]; exact hin) rfl rfl hdg fun H1 e1 z oq => ?_
  refine kk H1 _ (hR.of_set hv (fun a b h => cellE_congr (uI_ne h) (fun _ => rfl) rfl) z ?_ oq) (hS.put z oq (adr_in hv))
  rw [cellE_int ht, uI_self]
  show H1[adr E t o]? = some (vp_cell _ _)
  rw [e1]
  show some ((vp_cell _ _).setSlot _ _) = _
  rw [vp_cell_i, vp_cell_i, arrV_store]
  congr 2
  funext q
  by_cases hq : q = i.toNatClampNeg
  · subst hq
    simp [updV, upd]
  · simp [updV, upd, hq]
theorem r_zst {t o w : Nat} {i x : Int32} (hC : Ctx E M d N0 N1 R p s m meth c args) (ht : nthD tinfo t (99, 0) = (2, w)) (hv : vld0 n t o) (hR : Rep E H (I, J, n, A)) (hS : va_S (eA E) s.heap H locs) (hin : vp_in i w) (hx01 : x = 0 ∨ x = 1) (hdg : decode (mY M).2.1 pc = .ok (.bastore, 1))
    (kk : ∀ H1 locs1, Rep E H1 (uI I t o i.toNatClampNeg x, J, n, A) → va_S (eA E) s.heap H1 locs1 → W p (eL E) e R s m args below meth c H1 locs1 cells slots Z (F0 m (pc + 1) la rest)) : W p (eL E) e R s m args below meth c H locs cells slots Z (F0 m pc la (.int x :: .int i :: .ref (adr E t o) :: rest)) := by
  obtain ⟨hx, hb, hml, hown, hts, hini, hKK, -⟩ := hC
  have ha : (wsO E (I, J, n, A))[off t o]? = some (adr E t o, .inl (eC E 1, w, .inl (I t o))) := by rw [Rep_at (H := H) hv, cellE_bool ht]
  refine W.zast hx hb (hR.1 _ _ ha) ((hKK.1.2 1 _ rfl).1 w (fun j => .int (I t o j))) (fun q => by cases q) (by show ¬ (i < 0 ∨ (arrV _ _ _).slots.size ≤ _); rw [arrV_size]; exact hin) rfl rfl hdg fun H1 e1 z oq => ?_
  have hnx : narrow .boolean (.int x) = .int x := by rcases hx01 with rfl | rfl <;> rfl
  refine kk H1 _ (hR.of_set hv (fun a b h => cellE_congr (uI_ne h) (fun _ => rfl) rfl) z ?_ oq) (hS.put z oq (adr_in hv))
  rw [cellE_bool ht, uI_self]
  show H1[adr E t o]? = some (vp_cell _ _)
  rw [e1, hnx]
  show some ((vp_cell _ _).setSlot _ _) = _
  rw [vp_cell_i, vp_cell_i, arrV_store]
  congr 2
  funext q
  by_cases hq : q = i.toNatClampNeg
  · subst hq
    simp [updV, upd]
  · simp [updV, upd, hq]
theorem r_lst {o : Nat} {i : Int32} {x : Int64} (hC : Ctx E M d N0 N1 R p s m meth c args) (hv : vld0 n 14 o) (hR : Rep E H (I, J, n, A)) (hS : va_S (eA E) s.heap H locs) (hin : vp_in i (tlen 14 o)) (hdg : decode (mY M).2.1 pc = .ok (.lastore, 1))
    (kk : ∀ H1 locs1, Rep E H1 (I, uJ J o i.toNatClampNeg x, n, A) → va_S (eA E) s.heap H1 locs1 → W p (eL E) e R s m args below meth c H1 locs1 cells slots Z (F0 m (pc + 1) la rest)) : W p (eL E) e R s m args below meth c H locs cells slots Z (F0 m pc la (.long x :: .int i :: .ref (adr E 14 o) :: rest)) := by
  obtain ⟨hx, hb, hml, hown, hts, hini, hKK, -⟩ := hC
  have ha : (wsO E (I, J, n, A))[off 14 o]? = some (adr E 14 o, .inl (eC E 2, tlen 14 o, .inr (.inl (J o)))) := by rw [Rep_at (H := H) hv, cellE_long]
  refine W.last hx hb (hR.1 _ _ ha) ((hKK.1.2 2 _ rfl).1 (tlen 14 o) (fun j => .long (J o j))) (fun q => by cases q) (by show ¬ (i < 0 ∨ (arrV _ _ _).slots.size ≤ _); rw [arrV_size]; exact hin) rfl rfl hdg fun H1 e1 z oq => ?_
  refine kk H1 _ (hR.of_set hv (fun a b h => cellE_congr rfl (fun h14 => ?_) rfl) z ?_ oq) (hS.put z oq (adr_in hv))
  · subst h14
    have hb2 : b ≠ o := fun hq => h (by rw [hq])
    funext q
    simp [uJ, hb2]
  rw [cellE_long]
  show H1[adr E 14 o]? = some (vp_cell _ _)
  rw [e1]
  show some ((vp_cell _ _).setSlot _ _) = _
  rw [vp_cell_l, vp_cell_l, arrV_store]
  congr 2
  funext q
  by_cases hq : q = i.toNatClampNeg
  · subst hq
    simp [updV, uJ]
  · simp [updV, uJ, hq]
theorem r_ald {t o w ty0 : Nat} {i : Int32} {ty : FieldType} {f : Nat → Option Nat} {a : Nat} (hC : Ctx E M d N0 N1 R p s m meth c args) (hv : vld0 n t o) (hR : Rep E H (I, J, n, A)) (hce : cellE E t o I J A = .inl (eC E ty0, w, .inr (.inr (.inr (.inr f))))) (hty : (KKt E)[ty0]? = some (eC E ty0, ty)) (hrf : ty.isReference = true) (hin : vp_in i w) (hf : f i.toNatClampNeg = some a) (hdg : decode (mY M).2.1 pc = .ok (.aaload, 1))
    (kk : W p (eL E) e R s m args below meth c H locs cells slots Z (F0 m (pc + 1) la (.ref a :: rest))) : W p (eL E) e R s m args below meth c H locs cells slots Z (F0 m pc la (.int i :: .ref (adr E t o) :: rest)) := by
  obtain ⟨hx, hb, hml, hown, hts, hini, hKK, -⟩ := hC
  have ha : (wsO E (I, J, n, A))[off t o]? = some (adr E t o, .inl (eC E ty0, w, .inr (.inr (.inr (.inr f))))) := by rw [Rep_at (H := H) hv, hce]
  have hlt : i.toNatClampNeg < w := Nat.not_le.mp fun q => hin (Or.inr q)
  exact W.aald (v := .ref a) (ty := ty) hx hb (hR.1 _ _ ha) ((hKK.1.2 ty0 _ hty).1 w (fun j => va_rf (f j))) hrf (fun q => by cases q) (by show ¬ (i < 0 ∨ (arrV _ _ _).slots.size ≤ _); rw [arrV_size]; exact hin) (by show (arrV _ _ _).slots[_]? = _; rw [arrV_read _ _ hlt, hf]; rfl) rfl rfl hdg kk
theorem r_ast {t o w b : Nat} {i : Int32} {f : Nat → Option Nat} {I1 : SI} {A1 : SA} (hC : Ctx E M d N0 N1 R p s m meth c args) (hv : vld0 n t o) (hvb : vld0 n 3 b) (hR : Rep E H (I, J, n, A)) (hS : va_S (eA E) s.heap H locs) (hce : cellE E t o I J A = .inl (eC E 3, w, .inr (.inr (.inr (.inr f))))) (hce1 : cellE E t o I1 J A1 = .inl (eC E 3, w, .inr (.inr (.inr (.inr (va_up f i.toNatClampNeg (some (adr E 3 b)))))))) (hoth : ∀ a b, (a, b) ≠ (t, o) → cellE E a b I1 J A1 = cellE E a b I J A) (hin : vp_in i w) (hdg : decode (mY M).2.1 pc = .ok (.aastore, 1))
    (kk : ∀ H1 locs1, Rep E H1 (I1, J, n, A1) → va_S (eA E) s.heap H1 locs1 → W p (eL E) e R s m args below meth c H1 locs1 cells slots Z (F0 m (pc + 1) la rest)) : W p (eL E) e R s m args below meth c H locs cells slots Z (F0 m pc la (.ref (adr E 3 b) :: .int i :: .ref (adr E t o) :: rest)) := by
  obtain ⟨hx, hb, hml, hown, hts, hini, hKK, -⟩ := hC
  have ha : (wsO E (I, J, n, A))[off t o]? = some (adr E t o, .inl (eC E 3, w, .inr (.inr (.inr (.inr f))))) := by rw [Rep_at (H := H) hv, hce]
  have hbk : (wsO E (I, J, n, A))[off 3 b]? = some (adr E 3 b, .inr (1, (List.range (nthD ftab 1 []).length).map (fval E 1 3 b I A))) := by rw [Rep_at (H := H) hvb, cellE_obj (t := 3) (ci := 1) rfl]
  have hlt : i.toNatClampNeg < w := Nat.not_le.mp fun q => hin (Or.inr q)
  have h0 : ¬ i < 0 := fun q => hin (Or.inl q)
  obtain ⟨r', hr', cellV, g1, g2, g3, -⟩ := hR.1 _ _ hbk
  have hcls := (hKK.1.1 1 (RX1, TX1, 5) rfl).2
  obtain ⟨kA, comp, k1, k2, k3, -⟩ := (hKK.1.2 3 _ rfl).2
  have hcomp : comp = (eD E).1 1 := Option.some.inj (k3.symm.trans hcls.1)
  subst hcomp
  obtain ⟨kC, hkC, -⟩ := hcls.2
  refine W.aast hx hb (hR.1 _ _ ha) (fun q h => by cases h) (fun h => by cases h) k1 k2 rfl hkC ⟨h0, by show _ < (arrV _ _ _).slots.size; rw [arrV_size]; exact hlt⟩ g1 (fun q h => by rw [g3] at h; cases h) (by rw [g2]; exact hkC) (by rw [g2]; exact va_assign hcls) rfl rfl hdg fun H1 e1 z oq => ?_
  refine kk H1 _ (hR.of_set hv hoth z ?_ oq) (hS.put z oq (adr_in hv))
  rw [hce1]
  show H1[adr E t o]? = some (vp_cell _ _)
  rw [e1]
  show some ((vp_cell _ _).setSlot _ _) = _
  rw [vp_cell_q, vp_cell_q, arrV_store]
  congr 2
  funext q
  by_cases hq : q = i.toNatClampNeg
  · subst hq
    simp [updV, va_up, va_rf]
  · simp [updV, va_up, hq]
theorem r_len {t o ty0 : Nat} {x : vp_A} {ty : FieldType} (hC : Ctx E M d N0 N1 R p s m meth c args) (hv : vld0 n t o) (hR : Rep E H (I, J, n, A)) (hce : cellE E t o I J A = .inl (eC E ty0, x)) (hty : (KKt E)[ty0]? = some (eC E ty0, ty)) (hdg : decode (mY M).2.1 pc = .ok (.arraylength, 1))
    (kk : W p (eL E) e R s m args below meth c H locs cells slots Z (F0 m (pc + 1) la (.int (nI x.1) :: rest))) : W p (eL E) e R s m args below meth c H locs cells slots Z (F0 m pc la (.ref (adr E t o) :: rest)) := by
  obtain ⟨hx, hb, hml, hown, hts, hini, hKK, -⟩ := hC
  exact va_alen (D := eD E) hx hb hKK.1 hR.1 (off t o) ty0 (by rw [Rep_at (H := H) hv, hce]) hty rfl hdg kk
/-- one thing more -/
theorem Rep.push {H1 : Heap} {I1 : SI} {J1 : SJ} {A1 : SA} {t o : Nat} (hR : Rep E H (I, J, n, A)) (hn : n < 117) (hid : nthD allIds n (99, 0) = (t, o)) (hne : ∀ a b, (a, b) ≠ (t, o) → cellE E a b I1 J1 A1 = cellE E a b I J A) (hz : H1.size = H.size + 1) (he : va_at (eD E) vwCl (H.size, cellE E t o I1 J1 A1) H1) (oq : ∀ q : Nat, q < H.size → H1[q]? = H[q]?) : Rep E H1 (I1, J1, n + 1, A1) := by
  have hsz := hR.2.1 hn
  refine ⟨?_, fun _ => by rw [hz, hsz]; omega, hn⟩
  intro k q hk
  have hk1 : k < n + 1 := by
    have := (List.getElem?_eq_some_iff.mp hk).1
    rwa [wsO_len] at this
  rw [wsO_get hk1] at hk
  cases hk
  by_cases hkn : k = n
  · subst hkn
    unfold cellAt
    rw [hid, ← hsz]
    exact he
  · have hlt : k < n := by omega
    have h1 := hR.1 k _ (wsO_get hlt)
    have h4 := off_at k (by omega)
    have h5 := off_at n hn
    rw [hid] at h5
    unfold cellAt
    rw [hne _ _ (fun hq => by
      have e1 : (nthD allIds k (99, 0)).1 = t := congrArg Prod.fst hq
      have e2 : (nthD allIds k (99, 0)).2 = o := congrArg Prod.snd hq
      rw [e1, e2] at h4
      exact hkn (h4.symm.trans h5))]
    exact h1.kept (oq _ (by show eB E + k < H.size; omega))
theorem adr_new {t o : Nat} (hn : n < 117) (hid : nthD allIds n (99, 0) = (t, o)) : adr E t o = eB E + n := by
  have h5 := off_at n hn
  have h6 := vld0_at (n := n + 1) (t := t) (k := o) ⟨n, Nat.lt_succ_self n, hn, hid⟩
  rw [hid] at h5
  unfold adr
  rw [if_pos h6.2.2]
  exact congrArg (eB E + ·) h5
theorem S_push {H1 : Heap} (hS : va_S (eA E) s.heap H locs) (hz : H1.size = H.size + 1) (oq : ∀ q : Nat, q < H.size → H1[q]? = H[q]?) : va_S (eA E) s.heap H1 locs :=
  ⟨Nat.le_trans hS.1 (by omega), fun x h1 h2 => (oq x (Nat.lt_of_lt_of_le h1 hS.1)).trans (hS.2.1 x h1 h2), hS.2.2⟩
theorem r_new {idx ci t o : Nat} {pl : List Nat} (hC : Ctx E M d N0 N1 R p s m meth c args) (hf : okC (mP M).1 (idx, ci, pl) = true) (hR : Rep E H (I, J, n, A)) (hS : va_S (eA E) s.heap H locs) (hid : nthD allIds n (99, 0) = (t, o)) (ht : nthD tinfo t (99, 0) = (0, ci)) (hN0 : N0 ≤ n) (hN1 : n + 1 ≤ N1) (hdg : decode (mY M).2.1 pc = .ok (.new idx, 3))
    (kk : ∀ H1, Rep E H1 (zI I t o, J, n + 1, zA A t o) → va_S (eA E) s.heap H1 locs → W p (eL E) e R s m args below meth c H1 locs (n + 1 - N0) (sz (n + 1) - sz N0) Z (F0 m (pc + 3) la (.ref (adr E t o) :: rest))) : W p (eL E) e R s m args below meth c H locs (n - N0) (sz n - sz N0) Z (F0 m pc la rest) := by
  obtain ⟨hx, hb, hml, hown, hts, hini, hKK, hn01, hn117, hfr, hlo, hcl, hsl⟩ := hC
  have hn : n < 117 := by omega
  simp only [okC] at hf
  cases hvc : vwCl[ci]? with
  | none => rw [hvc] at hf; cases hf
  | some q =>
    obtain ⟨C, T, N⟩ := q
    rw [hvc] at hf
    simp only [Bool.and_eq_true, decide_eq_true_eq] at hf
    obtain ⟨⟨h1, h2⟩, h3⟩ := hf
    obtain ⟨f1, f2, ⟨ty0, f3, f6⟩, f4, f5⟩ := cls_ok hvc
    have hKn := hKK.1.1 ci _ hvc
    have hszn : sz (n + 1) = sz n + N := by
      show sz n + szOf (nthD allIds n (99, 0)) = _
      rw [hid]
      simp only [szOf, ht]
      rw [f1]
    have hm1 := sz_mono hN0
    have hm2 := sz_mono hN1
    have key := W.newcK (R := R) (cells := n - N0) (slots := sz n - sz N0) (n := N) hx hb (m := m) (p := p) (l := eL E) (e := e) (below := below) (meth := meth) (Q := Z) (H := H) (locs := locs) hown (hts _ (inG h1 rfl)) (hts _ (inG h2 rfl)) (hts _ (inG h3 rfl)) (g := F0 m pc la rest) rfl hdg (by omega) (by omega) hKn.2.1 rfl
    refine key fun H1 kC hkC e1 z1 o1 => ?_
    have hRe := hR.push (H1 := H1) (I1 := zI I t o) (J1 := J) (A1 := zA A t o) hn hid (fun a b h => cellE_congr (zI_ne h) (fun _ => rfl) (zA_ne h)) z1 (by
      rw [cellE_obj ht]
      refine ⟨_, hvc, (u_born ty0 hts f2 hKn hkC e1 f3).to fun j hj => ?_⟩
      rw [f6 j hj]
      have hj2 : j < (nthD ftab ci []).length := by rw [← f1]; exact hj
      show _ = vp_V _ j
      unfold vp_V
      rw [List.getD_eq_getElem?_getD, fs_get hj2]
      show _ = fval E ci t o (zI I t o) (zA A t o) j
      unfold fval
      generalize nthD (nthD ftab ci []) j (0, 0, 0) = q
      rcases q with ⟨_ | _ | _ | kd, t1, cd⟩ <;> simp [zA, zI]) o1
    have e2 : (.ref H.size : Value) = .ref (adr E t o) := by rw [hR.2.1 hn, adr_new hn hid]
    have hW := kk H1 hRe (S_push hS z1 o1)
    rw [show n - N0 + 1 = n + 1 - N0 by omega, show sz n - sz N0 + N = sz (n + 1) - sz N0 by omega]
    rw [← e2] at hW
    exact hW
theorem sz_step {t o w : Nat} (hid : nthD allIds n (99, 0) = (t, o)) (h : szOf (t, o) = w) : sz (n + 1) = sz n + w := by
  show sz n + szOf (nthD allIds n (99, 0)) = _
  rw [hid, h]
theorem tlen_len {t o kd w : Nat} (ht : nthD tinfo t (99, 0) = (kd, w)) (h3 : kd ≠ 3) (h0 : kd ≠ 0) : szOf (t, o) = w := by
  have h14 : t ≠ 14 := fun h => by
    subst h
    rw [t14i] at ht
    cases ht
    exact h3 rfl
  have hl : tlen t o = w := by
    unfold tlen
    split
    · exact absurd rfl h14
    · rw [ht]
  unfold szOf
  simp only [ht]
  exact hl
/-- a new array of ints (booleans, longs): its cell is what the store says -/
theorem r_newa {t o w : Nat} {at0 : ArrayType} {cnt : Int32} {ty0 : Nat} {z : vp_A} {I1 : SI} {J1 : SJ} (hC : Ctx E M d N0 N1 R p s m meth c args) (hac : Cond.arrayClass (newarray.typeOf at0) ∈ gw) (hR : Rep E H (I, J, n, A)) (hS : va_S (eA E) s.heap H locs) (hid : nthD allIds n (99, 0) = (t, o)) (hw : szOf (t, o) = w) (hw2 : w ≤ 2000) (hc : cnt = nI w) (hty : (KKt E)[ty0]? = some (eC E ty0, newarray.typeOf at0)) (hpr : ∀ C, newarray.typeOf at0 ≠ .object C)
    (hce : cellE E t o I1 J1 A = .inl (eC E ty0, z)) (hz : ∀ cA : ClassId, vp_cell cA z = arrV cA w (fun _ => defaultValue (newarray.typeOf at0))) (hcb : w * componentBytes (newarray.typeOf at0) ≤ 536870912) (hne : ∀ a b, (a, b) ≠ (t, o) → cellE E a b I1 J1 A = cellE E a b I J A) (hN0 : N0 ≤ n) (hN1 : n + 1 ≤ N1) (hdg : decode (mY M).2.1 pc = .ok (.newarray at0, 2))
    (kk : ∀ H1, Rep E H1 (I1, J1, n + 1, A) → va_S (eA E) s.heap H1 locs → W p (eL E) e R s m args below meth c H1 locs (n + 1 - N0) (sz (n + 1) - sz N0) Z (F0 m (pc + 2) la (.ref (adr E t o) :: rest))) : W p (eL E) e R s m args below meth c H locs (n - N0) (sz n - sz N0) Z (F0 m pc la (.int cnt :: rest)) := by
  obtain ⟨hx, hb, hml, hown, hts, hini, hKK, hn01, hn117, hfr, hlo, hcl, hsl⟩ := hC
  have hn : n < 117 := by omega
  have hszn := sz_step hid hw
  have hm1 := sz_mono hN0
  have hm2 := sz_mono hN1
  subst hc
  refine va_newaK (N := w) hx hb (hts _ hac) (g := F0 m pc la (.int (nI w) :: rest)) rfl hdg rfl (nI_pos (by omega)) (nI_clamp (by omega)) hcb (by omega) (by omega) rfl fun H1 cA e1 z1 o1 hAr hNm => ?_
  have hcA : cA = eC E ty0 := by
    have h2 := (hKK.1.2 ty0 _ hty).2
    cases hq : newarray.typeOf at0 <;> rw [hq] at h2 hNm hpr <;> first | exact Option.some.inj (hNm.symm.trans h2) | exact absurd rfl (hpr _)
  subst hcA
  have hRe := hR.push (H1 := H1) (I1 := I1) (J1 := J1) (A1 := A) hn hid hne z1 (by
    rw [hce]
    show H1[H.size]? = some (vp_cell _ _)
    rw [hz]
    exact e1) o1
  have e2 : (.ref H.size : Value) = .ref (adr E t o) := by rw [hR.2.1 hn, adr_new hn hid]
  have hW := kk H1 hRe (S_push hS z1 o1)
  rw [show n - N0 + 1 = n + 1 - N0 by omega, show sz n - sz N0 + w = sz (n + 1) - sz N0 by omega]
  rw [← e2] at hW
  exact hW
/-- a new array of books -/
theorem r_newb {idx t o w : Nat} {cnt : Int32} {I1 : SI} {A1 : SA} (hC : Ctx E M d N0 N1 R p s m meth c args) (hcl1 : Cond.classLink (mP M).1 idx RX1 ∈ gw) (hR : Rep E H (I, J, n, A)) (hS : va_S (eA E) s.heap H locs) (hid : nthD allIds n (99, 0) = (t, o)) (hw : szOf (t, o) = w) (hw2 : w ≤ 2000) (hc : cnt = nI w)
    (hce : cellE E t o I1 J A1 = .inl (eC E 3, w, .inr (.inr (.inr (.inr (fun _ => none)))))) (hne : ∀ a b, (a, b) ≠ (t, o) → cellE E a b I1 J A1 = cellE E a b I J A) (hN0 : N0 ≤ n) (hN1 : n + 1 ≤ N1) (hdg : decode (mY M).2.1 pc = .ok (.anewarray idx, 3))
    (kk : ∀ H1, Rep E H1 (I1, J, n + 1, A1) → va_S (eA E) s.heap H1 locs → W p (eL E) e R s m args below meth c H1 locs (n + 1 - N0) (sz (n + 1) - sz N0) Z (F0 m (pc + 3) la (.ref (adr E t o) :: rest))) : W p (eL E) e R s m args below meth c H locs (n - N0) (sz n - sz N0) Z (F0 m pc la (.int cnt :: rest)) := by
  obtain ⟨hx, hb, hml, hown, hts, hini, hKK, hn01, hn117, hfr, hlo, hcl, hsl⟩ := hC
  have hn : n < 117 := by omega
  have hszn := sz_step hid hw
  have hm1 := sz_mono hN0
  have hm2 := sz_mono hN1
  subst hc
  have hcw : (nI w).toNatClampNeg = w := nI_clamp (by omega)
  refine W.anew hx hb hown (hts _ hcl1) (va_AO.use hKK.2.2.1) (g := F0 m pc la (.int (nI w) :: rest)) rfl hdg rfl (nI_pos (by omega)) (by rw [hcw]; omega) (by omega) (by rw [hcw]; omega) fun cA kA comp g1 g2 g3 g4 => ?_
  rw [hcw]
  generalize hH1 : H.push ({ cls := cA, slots := Array.replicate w .null, vm := .none } : Cell) = H1
  have z1 : H1.size = H.size + 1 := by rw [← hH1, Array.size_push]
  have e1 : H1[H.size]? = some (arrV cA w (fun _ => .null)) := by rw [← hH1, Array.getElem?_push_size, ← arrV_new]
  have o1 : ∀ q : Nat, q < H.size → H1[q]? = H[q]? := fun q hq => by rw [← hH1, Array.getElem?_push, if_neg (Nat.ne_of_lt hq)]
  have hcA : cA = eC E 3 := by
    obtain ⟨kA2, comp2, k1, k2, k3, k4⟩ := (hKK.1.2 3 _ rfl).2
    exact Option.some.inj (g1.symm.trans k4)
  subst hcA
  have hRe := hR.push (H1 := H1) (I1 := I1) (J1 := J) (A1 := A1) hn hid hne z1 (by
    rw [hce]
    show H1[H.size]? = some (vp_cell _ _)
    rw [vp_cell_q]
    exact e1) o1
  have e2 : (.ref H.size : Value) = .ref (adr E t o) := by rw [hR.2.1 hn, adr_new hn hid]
  have hW := kk H1 hRe (S_push hS z1 o1)
  rw [show n - N0 + 1 = n + 1 - N0 by omega, show sz n - sz N0 + w = sz (n + 1) - sz N0 by omega]
  rw [← e2] at hW
  exact hW
end SOUND3
