/-! A line's rows, in the store -/
theorem arrV_cg {cA : ClassId} {N : Nat} {f g : Nat → Value} (h : ∀ j, j < N → f j = g j) : arrV cA N f = arrV cA N g := by
  unfold arrV
  congr 1
  exact congrArg Array.ofFn (funext fun j => h j.val j.isLt)
theorem arrV_of {cA : ClassId} {N : Nat} {sl : Array Value} {f : Nat → Value} (h1 : sl.size = N) (h2 : ∀ j, j < N → sl[j]? = some (f j)) : ({ cls := cA, slots := sl, vm := .none } : Cell) = arrV cA N f := by
  unfold arrV
  congr 1
  apply Array.ext
  · simp [h1]
  · intro i hi1 hi2
    have := h2 i (by omega)
    rw [Array.getElem?_eq_getElem hi1] at this
    simpa using this
theorem ma_cl : Cond.classLink RX3 9 "[[I" ∈ gw := by decide +kernel
theorem line_ids : ∀ o, o < 2 → nthD allIds (off 9 o) (99, 0) = (9, o) ∧ (∀ j, j < 5 → nthD allIds (off 9 o + 1 + j) (99, 0) = (10, 5 * o + j)) ∧ off 9 o + 6 ≤ 117 ∧ ∀ j, j < 5 → off 10 (5 * o + j) = off 9 o + 1 + j := by decide +kernel
theorem sz_130 : ∀ o, o < 2 → sz (off 9 o + 6) = sz (off 9 o) + 130 := by decide +kernel
theorem Rep.multi {E : EV} {H H1 : Heap} {I : SI} {J : SJ} {A : SA} {n o : Nat} (ho : o < 2) (hn : n = off 9 o) (hR : Rep E H (I, J, n, A)) (hz : H1.size = H.size + 6) (he : H1[H.size]? = some (arrV (eC E 4) 5 (fun j => .ref (H.size + 1 + j)))) (hi : ∀ j, j < 5 → H1[H.size + 1 + j]? = some (arrV (eC E 0) 25 (fun _ => .int 0))) (oq : ∀ q, q < H.size → H1[q]? = H[q]?) : Rep E H1 (z5 I o, J, n + 6, A) := by
  obtain ⟨i1, i2, i3, i4⟩ := line_ids o ho
  rw [← hn] at i1 i2 i3 i4
  have hsz := hR.2.1 (by omega)
  refine ⟨?_, fun _ => by rw [hz, hsz]; omega, by omega⟩
  intro k q hk
  have hk1 : k < n + 6 := by
    have := (List.getElem?_eq_some_iff.mp hk).1
    rwa [wsO_len] at this
  rw [wsO_get hk1] at hk
  cases hk
  by_cases hkn : k < n
  · have h1 := hR.1 k _ (wsO_get hkn)
    have h4 := off_at k (by omega)
    have hc : cellAt E k (z5 I o) J A = cellAt E k I J A := by
      unfold cellAt
      refine cellE_congr ?_ (fun _ => rfl) rfl
      funext x
      unfold z5
      rw [if_neg]
      rintro ⟨q1, q2, q3⟩
      have := i4 ((nthD allIds k (99, 0)).2 - 5 * o) (by omega)
      rw [q1] at h4
      rw [show 5 * o + ((nthD allIds k (99, 0)).2 - 5 * o) = (nthD allIds k (99, 0)).2 by omega, h4] at this
      omega
    rw [hc]
    exact h1.kept (oq _ (by show eB E + k < H.size; omega))
  · by_cases hk0 : k = n
    · subst hk0
      unfold cellAt
      rw [i1]
      show va_at (eD E) vwCl (eB E + k, cellE E 9 o (z5 I o) J A) H1
      show H1[eB E + k]? = some (vp_cell (eC E 4) (5, .inr (.inr (.inr (.inr (fun j => if j < 5 then some (adr E 10 (5 * o + j)) else none))))))
      rw [vp_cell_q, ← hsz, he]
      refine congrArg some (arrV_cg (fun j hj => ?_))
      have ha : adr E 10 (5 * o + j) = H.size + 1 + j := by
        unfold adr
        rw [if_pos (by decide), i4 j hj]
        omega
      show Value.ref (H.size + 1 + j) = va_rf (if j < 5 then some (adr E 10 (5 * o + j)) else none)
      rw [if_pos hj, ha]
      rfl
    · obtain ⟨j, hj, rfl⟩ : ∃ j, j < 5 ∧ k = n + 1 + j := ⟨k - n - 1, by omega, by omega⟩
      unfold cellAt
      rw [i2 j hj]
      show H1[eB E + (n + 1 + j)]? = some (vp_cell (eC E 0) (25, .inl (z5 I o 10 (5 * o + j))))
      rw [show eB E + (n + 1 + j) = H.size + 1 + j by omega, hi j hj]
      refine congrArg some (arrV_cg (f := fun _ => Value.int 0) (g := fun x => Value.int (z5 I o 10 (5 * o + j) x)) (fun x hx => ?_))
      have hz : z5 I o 10 (5 * o + j) x = 0 := if_pos ⟨rfl, by omega, by omega⟩
      rw [hz]
set_option maxRecDepth 10000 in
theorem Sat.multi {d N1 n o : Nat} {Q : Option AV → ST → Prop} {ls : LV} {st : List AV} {I : SI} {J : SJ} {A : SA} (ho : o < 2) (hn : n = off 9 o) (hN : n + 6 ≤ N1) (h : Sat none MX3_init d N1 Q 12 ls (vr 9 o :: st) (z5 I o, J, n + 6, A)) : Sat none MX3_init d N1 Q 8 ls (vi 25 :: vi 5 :: st) (I, J, n, A) := by
  intro E hX p e s m args below meth c R Z N0 hC hRet H locs la hR hS hL hN0 hN1 hst hls
  have hC' := hC
  obtain ⟨hx, hb, hml, hown, hts, hini, hKK, hn01, hn117, hfr, hlo, hcl, hsl⟩ := hC
  obtain ⟨i1, i2, i3, i4⟩ := line_ids o ho
  have hsz := hR.2.1 (by omega)
  have hs130 := sz_130 o ho
  rw [← hn] at hs130 i1 i3
  have hm1 : sz N0 ≤ sz n := sz_mono hN0
  have hm2 : sz (n + 6) ≤ sz N1 := sz_mono hN
  have hN0 : N0 ≤ n := hN0
  have hst : ∀ a ∈ vi 25 :: vi 5 :: st, vok n a := hst
  have hls : ∀ i a, lget ls i = some a → vok n a := hls
  show W p (eL E) e R s m args below meth c H locs (n - N0) (sz n - sz N0) Z (F0 m 8 la (.int 25 :: .int 5 :: st.map (conc E)))
  refine ma_W (rest := st.map (conc E)) hx hb hown (hts _ ma_cl) hKK.2.2.2.1 (hts _ ac_int) (g := F0 m 8 la (.int 25 :: .int 5 :: st.map (conc E))) rfl (show decode (mY MX3_init).2.1 8 = .ok (.multianewarray 9 2, 4) by decide +kernel) rfl (by omega) (by omega) fun H1 cA cI sl f1 f2 z1 e1 e2 e3 e4 o1 => ?_
  have hcI : cI = eC E 0 := Option.some.inj (f2.symm.trans (hKK.1.2 0 _ rfl).2)
  have hcA : cA = eC E 4 := Option.some.inj (f1.symm.trans (hKK.1.2 4 _ rfl).2)
  subst hcI
  subst hcA
  have hRe : Rep E H1 (z5 I o, J, n + 6, A) := hR.multi ho hn z1 (by rw [e1, arrV_of e2 e3]) (fun j hj => by rw [e4 j hj, arrV_new]) o1
  have hS1 : va_S (eA E) s.heap H1 locs := ⟨Nat.le_trans hS.1 (by omega), fun x h1 h2 => (o1 x (Nat.lt_of_lt_of_le h1 hS.1)).trans (hS.2.1 x h1 h2), hS.2.2⟩
  have hW := h E hX p e s m args below meth c R Z N0 hC' hRet H1 locs la hRe hS1 hL (by show N0 ≤ n + 6; omega) hN (fun a ha => ?_) (fun i a ha => (hls i a ha).mono (by show n ≤ n + 6; omega) i3)
  · have e2 : (.ref H.size : Value) = .ref (adr E 9 o) := by
      unfold adr
      rw [if_pos (by decide), ← hn, hsz]
    show W p (eL E) e R s m args below meth c H1 locs (n - N0 + 6) (sz n - sz N0 + 130) Z (F0 m 12 la (.ref H.size :: st.map (conc E)))
    rw [show n - N0 + 6 = n + 6 - N0 by omega, show sz n - sz N0 + 130 = sz (n + 6) - sz N0 by omega, e2]
    exact hW
  · rcases List.mem_cons.mp ha with q | q
    · rw [q]
      exact Or.inl ⟨n, by show n < n + 6; omega, i3, i1⟩
    · exact (hst a (List.mem_cons_of_mem _ (List.mem_cons_of_mem _ q))).mono (by show n ≤ n + 6; omega) i3
