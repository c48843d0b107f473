/-! All references made: nothing but the numbers matters -/
theorem at_norm {E : EV} {t b q : Nat} {I : SI} {J : SJ} {A : SA} {H : Heap} (hF : FO A t b) (h : va_at (eD E) vwCl (q, cellE E t b I J A) H) : va_at (eD E) vwCl (q, cellE E t b I J aT) H := by
  unfold FO need at hF
  unfold cellE at h ⊢
  revert hF h
  generalize nthD tinfo t (99, 0) = w
  intro hF h
  obtain ⟨a, m⟩ := w
  match a, h, hF with
  | 0, h, hF =>
    have e : (List.range (nthD ftab m []).length).map (fval E m t b I aT) = (List.range (nthD ftab m []).length).map (fval E m t b I A) := by
      refine List.map_congr_left (fun j _ => ?_)
      have hj := hF j
      unfold fval
      revert hj
      show (Nat.beq (nthD (nthD ftab m []) j (0, 0, 0)).1 2 = true → A t b j = true) → _
      generalize nthD (nthD ftab m []) j (0, 0, 0) = z
      intro hj
      obtain ⟨c, t1, cc⟩ := z
      match c, hj with
      | 0, _ => rfl
      | 1, _ => rfl
      | 2, hj =>
        show (if aT t b j = true then Value.ref (adr E t1 (rtg cc b)) else Value.null) = (if A t b j = true then Value.ref (adr E t1 (rtg cc b)) else Value.null)
        rw [if_pos (hj rfl)]
        rfl
      | c + 3, _ => rfl
    show va_at (eD E) vwCl (q, .inr (m, (List.range (nthD ftab m []).length).map (fval E m t b I aT))) H
    rw [e]
    exact h
  | 1, h, _ => exact h
  | 2, h, _ => exact h
  | 3, h, _ => exact h
  | 4, h, hF =>
    have h : H[q]? = some (vp_cell (eC E 3) (m, .inr (.inr (.inr (.inr (fun j => if A t b j = true then some (adr E 3 (10 + j)) else none)))))) := h
    show H[q]? = some (vp_cell (eC E 3) (m, .inr (.inr (.inr (.inr (fun j => if aT t b j = true then some (adr E 3 (10 + j)) else none))))))
    rw [vp_cell_q] at h ⊢
    rw [h]
    refine congrArg some (arrV_cg (fun j hj => ?_))
    show va_rf (if A t b j = true then some (adr E 3 (10 + j)) else none) = va_rf (if aT t b j = true then some (adr E 3 (10 + j)) else none)
    rw [if_pos (hF j (Nat.ble_eq.mpr hj))]
    rfl
  | 5, h, hF =>
    have h : H[q]? = some (vp_cell (eC E 3) (m, .inr (.inr (.inr (.inr (fun j => if A t b j = true then some (adr E 3 (I t b j).toNatClampNeg) else none)))))) := h
    show H[q]? = some (vp_cell (eC E 3) (m, .inr (.inr (.inr (.inr (fun j => if aT t b j = true then some (adr E 3 (I t b j).toNatClampNeg) else none))))))
    rw [vp_cell_q] at h ⊢
    rw [h]
    refine congrArg some (arrV_cg (fun j hj => ?_))
    show va_rf (if A t b j = true then some (adr E 3 (I t b j).toNatClampNeg) else none) = va_rf (if aT t b j = true then some (adr E 3 (I t b j).toNatClampNeg) else none)
    rw [if_pos (hF j (Nat.ble_eq.mpr hj))]
    rfl
  | 6, h, _ => exact h
  | a + 7, h, _ => exact h
theorem Rep.norm {E : EV} {H : Heap} {I : SI} {J : SJ} {A : SA} (hF : ∀ o, o < 117 → FO A (nthD allIds o (99, 0)).1 (nthD allIds o (99, 0)).2) (h : Rep E H (I, J, 117, A)) : Rep E H (I, J, 117, aT) := by
  refine ⟨?_, h.2.1, h.2.2⟩
  intro k q hk
  have hk1 : k < 117 := by
    have := (List.getElem?_eq_some_iff.mp hk).1
    rwa [wsO_len] at this
  rw [wsO_get hk1] at hk
  cases hk
  exact at_norm (hF k hk1) (h.1 k _ (wsO_get hk1))
theorem Sat.norm {X : Option (Nat × (Nat → Int32))} {M : MD} {d N1 pc : Nat} {Q : Option AV → ST → Prop} {ls : LV} {st : List AV} {I : SI} {J : SJ} {A : SA} (hF : ∀ o, o < 117 → FO A (nthD allIds o (99, 0)).1 (nthD allIds o (99, 0)).2) (h : Sat X M d N1 Q pc ls st (S0 I J)) : Sat X M d N1 Q pc ls st (I, J, 117, A) := by
  intro E hX p e s m args below meth c R Z N0 hC hRet H locs la hR hS hL hN0 hN1 hst hls
  exact h E hX p e s m args below meth c R Z N0 hC hRet H locs la (hR.norm hF) hS hL hN0 hN1 hst hls
def ndId (q : Nat × Nat) : Bool := (List.range 30).any (need q.1)
def idsN : List (Nat × Nat) := [(0, 0), (7, 0), (8, 0), (8, 1), (18, 0), (19, 0), (20, 0), (21, 0), (25, 0), (27, 0), (16, 0), (16, 1), (16, 2), (16, 3), (3, 0), (3, 1), (3, 2), (3, 3), (3, 4), (3, 5), (3, 6), (3, 7), (3, 8), (3, 9), (3, 10), (3, 11), (29, 0)]
theorem idsN_all : ∀ o, o < 117 → ((nthD allIds o (99, 0)).1 < 51 ∧ (ndId (nthD allIds o (99, 0)) = false ∨ nthD allIds o (99, 0) ∈ idsN)) := by decide +kernel
theorem FO.all {A : SA} (h : FOC A) (h9 : FO A 29 0) : ∀ o, o < 117 → FO A (nthD allIds o (99, 0)).1 (nthD allIds o (99, 0)).2 := by
  intro o ho
  obtain ⟨ht, hq⟩ := idsN_all o ho
  revert ht hq
  generalize nthD allIds o (99, 0) = w
  intro ht hq
  rcases hq with hq | hq
  · refine FO.of ht (fun j hj hn => ?_)
    exfalso
    unfold ndId at hq
    have : (List.range 30).any (need w.1) = true := List.any_eq_true.mpr ⟨j, List.mem_range.mpr hj, hn⟩
    rw [hq] at this
    cases this
  · obtain ⟨h0, h7, h8, h81, h18, h19, h20, h21, h25, h27, h16, h3⟩ := h
    simp only [idsN, List.mem_cons, List.not_mem_nil, or_false] at hq
    rcases hq with e | e | e | e | e | e | e | e | e | e | e | e | e | e | e | e | e | e | e | e | e | e | e | e | e | e | e <;> subst e
    · exact h0
    · exact h7
    · exact h8
    · exact h81
    · exact h18
    · exact h19
    · exact h20
    · exact h21
    · exact h25
    · exact h27
    · exact h16 0 (by decide)
    · exact h16 1 (by decide)
    · exact h16 2 (by decide)
    · exact h16 3 (by decide)
    · exact h3 0 (by decide)
    · exact h3 1 (by decide)
    · exact h3 2 (by decide)
    · exact h3 3 (by decide)
    · exact h3 4 (by decide)
    · exact h3 5 (by decide)
    · exact h3 6 (by decide)
    · exact h3 7 (by decide)
    · exact h3 8 (by decide)
    · exact h3 9 (by decide)
    · exact h3 10 (by decide)
    · exact h3 11 (by decide)
    · exact h9
