/-! SOUNDNESS, 2: facts of the classes, by computation -/
theorem iX0 : ∀ w ∈ u_ws RX0 TX0 2, w ∈ gw := by decide +kernel
theorem iX1 : ∀ w ∈ u_ws RX1 TX1 5, w ∈ gw := by decide +kernel
theorem iX2 : ∀ w ∈ u_ws RX2 TX2 10, w ∈ gw := by decide +kernel
theorem iX3 : ∀ w ∈ u_ws RX3 TX3 10, w ∈ gw := by decide +kernel
theorem iX4 : ∀ w ∈ u_ws RX4 TX4 4, w ∈ gw := by decide +kernel
theorem iX5 : ∀ w ∈ u_ws RX5 TX5 2, w ∈ gw := by decide +kernel
theorem iX6 : ∀ w ∈ u_ws RX6 TX6 7, w ∈ gw := by decide +kernel
theorem iX7 : ∀ w ∈ u_ws RX7 TX7 4, w ∈ gw := by decide +kernel
theorem iX8 : ∀ w ∈ u_ws RX8 TX8 9, w ∈ gw := by decide +kernel
theorem iX9 : ∀ w ∈ u_ws RX9 TX9 30, w ∈ gw := by decide +kernel
def clsF (ci : Nat) (C : String) (T : u_T) (N : Nat) : Prop := N = (nthD ftab ci []).length ∧ (∀ w ∈ u_ws C T N, w ∈ gw) ∧ (∃ ty0 : Nat → FieldType, (∀ k, k < N → parseFieldDescriptor (T k).2.2.1 = some (ty0 k)) ∧ ∀ j, j < N → defaultValue (ty0 j) = (match nthD (nthD ftab ci []) j (0, 0, 0) with | (2, _, _) => Value.null | _ => Value.int 0)) ∧ (∀ a, a < N → ∀ b, b < N → a ≠ b → (T a).2.1 ≠ (T b).2.1) ∧ ∀ k, k < N → (T k).1 = C
theorem cls_ok {ci : Nat} {C : String} {T : u_T} {N : Nat} (h : vwCl[ci]? = some (C, T, N)) : clsF ci C T N := by
  match ci, h with
  | 0, h => cases h; exact ⟨by decide +kernel, iX0, ⟨tyX0, tyX0_ok, by decide +kernel⟩, nmX0, by decide +kernel⟩
  | 1, h => cases h; exact ⟨by decide +kernel, iX1, ⟨tyX1, tyX1_ok, by decide +kernel⟩, nmX1, by decide +kernel⟩
  | 2, h => cases h; exact ⟨by decide +kernel, iX2, ⟨tyX2, tyX2_ok, by decide +kernel⟩, nmX2, by decide +kernel⟩
  | 3, h => cases h; exact ⟨by decide +kernel, iX3, ⟨tyX3, tyX3_ok, by decide +kernel⟩, nmX3, by decide +kernel⟩
  | 4, h => cases h; exact ⟨by decide +kernel, iX4, ⟨tyX4, tyX4_ok, by decide +kernel⟩, nmX4, by decide +kernel⟩
  | 5, h => cases h; exact ⟨by decide +kernel, iX5, ⟨tyX5, tyX5_ok, by decide +kernel⟩, nmX5, by decide +kernel⟩
  | 6, h => cases h; exact ⟨by decide +kernel, iX6, ⟨tyX6, tyX6_ok, by decide +kernel⟩, nmX6, by decide +kernel⟩
  | 7, h => cases h; exact ⟨by decide +kernel, iX7, ⟨tyX7, tyX7_ok, by decide +kernel⟩, nmX7, by decide +kernel⟩
  | 8, h => cases h; exact ⟨by decide +kernel, iX8, ⟨tyX8, tyX8_ok, by decide +kernel⟩, nmX8, by decide +kernel⟩
  | 9, h => cases h; exact ⟨by decide +kernel, iX9, ⟨tyX9, tyX9_ok, by decide +kernel⟩, nmX9, by decide +kernel⟩
  | n + 10, h => simp [vwCl] at h
def tyAt (ci j : Nat) : Option FieldType := (vwCl[ci]?).bind fun q => parseFieldDescriptor (q.2.1 j).2.2.1
def finAt (ci j : Nat) : Option Bool := (vwCl[ci]?).map fun q => (q.2.1 j).2.2.2
def isRf : Option FieldType → Bool
  | some (.object _) => true
  | some (.array _) => true
  | _ => false
def fkB (ci j : Nat) : Bool := match Nat.blt j (nthD ftab ci []).length with
  | false => true
  | true => match (nthD (nthD ftab ci []) j (9, 0, 0)).1 with
    | 0 => decide (tyAt ci j = some .int) && decide (finAt ci j = some false)
    | 1 => decide (tyAt ci j = some .boolean) && decide (finAt ci j = some false)
    | 2 => isRf (tyAt ci j) && decide (finAt ci j = some true)
    | _ => true
theorem fk_b : ∀ ci, ci < 10 → ∀ j, j < 30 → fkB ci j = true := by decide +kernel
theorem flen_b : ∀ ci, (nthD ftab ci []).length ≤ 30 := by
  intro ci
  have h : ∀ ci, ci < 10 → (nthD ftab ci []).length ≤ 30 := by decide +kernel
  rcases Nat.lt_or_ge ci 10 with h1 | h1
  · exact h ci h1
  · rw [nthD_none ftab ci [] (by have : ftab.length = 10 := by decide +kernel
                                 omega)]
    decide
theorem fk0 {ci j : Nat} {C : String} {T : u_T} {N : Nat} (h : vwCl[ci]? = some (C, T, N)) (hj : j < (nthD ftab ci []).length) (hk : (nthD (nthD ftab ci []) j (9, 0, 0)).1 = 0) : parseFieldDescriptor (T j).2.2.1 = some .int ∧ (T j).2.2.2 = false := by
  have hc : ci < 10 := (List.getElem?_eq_some_iff.mp h).1
  have h1 := fk_b ci hc j (Nat.lt_of_lt_of_le hj (flen_b ci))
  unfold fkB at h1
  rw [show Nat.blt j (nthD ftab ci []).length = true from by rw [Nat.blt_eq]; exact hj] at h1
  simp only [hk, Bool.and_eq_true, decide_eq_true_eq, tyAt, finAt, h, Option.bind_some, Option.map_some, Option.some.injEq] at h1
  exact h1
theorem fk1 {ci j : Nat} {C : String} {T : u_T} {N : Nat} (h : vwCl[ci]? = some (C, T, N)) (hj : j < (nthD ftab ci []).length) (hk : (nthD (nthD ftab ci []) j (9, 0, 0)).1 = 1) : parseFieldDescriptor (T j).2.2.1 = some .boolean ∧ (T j).2.2.2 = false := by
  have hc : ci < 10 := (List.getElem?_eq_some_iff.mp h).1
  have h1 := fk_b ci hc j (Nat.lt_of_lt_of_le hj (flen_b ci))
  unfold fkB at h1
  rw [show Nat.blt j (nthD ftab ci []).length = true from by rw [Nat.blt_eq]; exact hj] at h1
  simp only [hk, Bool.and_eq_true, decide_eq_true_eq, tyAt, finAt, h, Option.bind_some, Option.map_some, Option.some.injEq] at h1
  exact h1
theorem fk2 {ci j : Nat} {C : String} {T : u_T} {N : Nat} (h : vwCl[ci]? = some (C, T, N)) (hj : j < (nthD ftab ci []).length) (hk : (nthD (nthD ftab ci []) j (9, 0, 0)).1 = 2) : isRf (parseFieldDescriptor (T j).2.2.1) = true ∧ (T j).2.2.2 = true := by
  have hc : ci < 10 := (List.getElem?_eq_some_iff.mp h).1
  have h1 := fk_b ci hc j (Nat.lt_of_lt_of_le hj (flen_b ci))
  unfold fkB at h1
  rw [show Nat.blt j (nthD ftab ci []).length = true from by rw [Nat.blt_eq]; exact hj] at h1
  simp only [hk, Bool.and_eq_true, decide_eq_true_eq, tyAt, finAt, h, Option.bind_some, Option.map_some, Option.some.injEq] at h1
  exact h1
theorem nthD_lt {α : Type} {l : List α} {j : Nat} {d x : α} (h : nthD l j d = x) (hne : x ≠ d) : j < l.length := by
  rcases Nat.lt_or_ge j l.length with h1 | h1
  · exact h1
  · rw [nthD_none l j d h1] at h
    exact absurd h.symm hne
theorem nthD_eq {α : Type} {l : List α} {j : Nat} (d d1 : α) (h : j < l.length) : nthD l j d = nthD l j d1 := by
  have h1 := nthD_get l j d h
  rw [nthD_get l j d1 h] at h1
  exact (Option.some.inj h1).symm
theorem tinfo_lt {t : Nat} {q : Nat × Nat} (h : nthD tinfo t (99, 0) = q) (hq : q.1 ≠ 99) : t < 51 := nthD_lt (l := tinfo) h (fun e => hq (by rw [e]))
theorem vld_obj {n t o : Nat} {q : Nat × Nat} (hv : vld n t o) (h : nthD tinfo t (99, 0) = q) (hq : q.1 ≠ 99) : vld0 n t o := by
  have ht := tinfo_lt h hq
  rcases hv with hv | hv
  · exact hv
  · rcases hv with ⟨h1, -⟩ | ⟨h1, -⟩ <;> omega
theorem vld_st {n t o : Nat} {m : Nat} (hv : vld n t o) (h : nthD tinfo t (99, 0) = (99, m)) : vldS t o := by
  rcases hv with hv | hv
  · obtain ⟨x, h1, h2, h3⟩ := hv
    have h5 : ∀ o, o < 117 → (nthD tinfo (nthD allIds o (99, 0)).1 (99, 0)).1 ≠ 99 := by decide +kernel
    have h6 := h5 x (by omega)
    rw [h3] at h6
    exact absurd (by rw [h]) h6
  · exact hv
theorem t14 : ∀ t, t < 51 → (nthD tinfo t (99, 0)).1 = 3 → t = 14 := by decide +kernel
theorem fval_congr {E : EV} {ci t k j : Nat} {I I1 : SI} {A A1 : SA} (h1 : I1 t k = I t k) (h3 : A1 t k = A t k) : fval E ci t k I1 A1 j = fval E ci t k I A j := by
  unfold fval
  rw [h1, h3]
theorem cellE_congr {E : EV} {I I1 : SI} {J J1 : SJ} {A A1 : SA} {a b : Nat} (h1 : I1 a b = I a b) (h2 : a = 14 → J1 b = J b) (h3 : A1 a b = A a b) : cellE E a b I1 J1 A1 = cellE E a b I J A := by
  have hf : ∀ ci, fval E ci a b I1 A1 = fval E ci a b I A := fun ci => funext fun j => fval_congr h1 h3
  unfold cellE
  rw [h1, h3]
  split
  · rw [hf]
  · rfl
  · rfl
  · rename_i q hq
    rw [h2 (t14 a (tinfo_lt hq (show (3 : Nat) ≠ 99 by decide)) (by rw [hq]))]
  · rfl
  · rfl
  · rfl
  · rfl
theorem uI_ne {I : SI} {t k j a b : Nat} {x : Int32} (h : (a, b) ≠ (t, k)) : uI I t k j x a b = I a b := by
  funext c
  unfold uI
  rw [if_neg]
  rintro ⟨h1, h2, -⟩
  exact h (by rw [h1, h2])
theorem uI_self {I : SI} {t k j : Nat} {x : Int32} : uI I t k j x t k = upd (I t k) j x := by
  funext c
  simp [uI, upd]
theorem uA_ne {A : SA} {t k j a b : Nat} (h : (a, b) ≠ (t, k)) : uA A t k j a b = A a b := by
  funext c
  unfold uA
  rw [if_neg]
  rintro ⟨h1, h2, -⟩
  exact h (by rw [h1, h2])
theorem zI_ne {I : SI} {t k a b : Nat} (h : (a, b) ≠ (t, k)) : zI I t k a b = I a b := by
  funext c
  unfold zI
  rw [if_neg]
  rintro ⟨h1, h2⟩
  exact h (by rw [h1, h2])
theorem zA_ne {A : SA} {t k a b : Nat} (h : (a, b) ≠ (t, k)) : zA A t k a b = A a b := by
  funext c
  unfold zA
  rw [if_neg]
  rintro ⟨h1, h2⟩
  exact h (by rw [h1, h2])
theorem cI_ne {I : SI} {t k t1 k1 sp dp n a b : Nat} (h : (a, b) ≠ (t1, k1)) : cI I t k t1 k1 sp dp n a b = I a b := by
  funext c
  unfold cI
  rw [if_neg]
  rintro ⟨h1, h2⟩
  exact h (by rw [h1, h2])
theorem vld0.mono {n n1 t k : Nat} (h : vld0 n t k) (h1 : n ≤ n1) (h2 : n1 ≤ 117) : vld0 n1 t k := by
  obtain ⟨o, a, b, c⟩ := h
  exact ⟨o, by omega, h2, c⟩
theorem vok.mono {n n1 : Nat} {a : AV} (h : vok n a) (h1 : n ≤ n1) (h2 : n1 ≤ 117) : vok n1 a := by
  rcases a with x | x | (_ | ⟨t, k⟩)
  · trivial
  · trivial
  · trivial
  · exact h.elim (fun h => Or.inl (h.mono h1 h2)) Or.inr
theorem alook_mem {α : Type} : ∀ (l : List (Nat × α)) (i : Nat) (a : α), alook l i = some a → (i, a) ∈ l
  | [], i, a, h => by simp [alook] at h
  | (j, b) :: l, i, a, h => by
    simp only [alook] at h
    split at h
    · rename_i hb
      cases h
      rw [Nat.eq_of_beq_eq_true hb]
      exact List.mem_cons_self
    · exact List.mem_cons_of_mem _ (alook_mem l i a h)
theorem wref_eq {t1 cd o : Nat} {k : AV → Prop} (h : wref t1 cd o k) : k (vr t1 (rtg cd o)) := by
  unfold wref at h
  unfold rtg
  split at h <;> exact h
/-- where a reference of a made thing leads, all being made -/
theorem ref_all : ∀ o, o < 117 → ∀ j, j < 30 → (nthD tinfo (nthD allIds o (99, 0)).1 (99, 0)).1 = 0 → (nthD (nthD ftab (nthD tinfo (nthD allIds o (99, 0)).1 (99, 0)).2 []) j (9, 0, 0)).1 = 2 →
    Nat.blt (off (nthD (nthD ftab (nthD tinfo (nthD allIds o (99, 0)).1 (99, 0)).2 []) j (9, 0, 0)).2.1 (rtg (nthD (nthD ftab (nthD tinfo (nthD allIds o (99, 0)).1 (99, 0)).2 []) j (9, 0, 0)).2.2 (nthD allIds o (99, 0)).2)) 117 = true := by decide +kernel
theorem off_vld {n t k : Nat} (h : off t k < n) (hn : n ≤ 117) : vld0 n t k := by
  refine ⟨off t k, h, hn, ?_⟩
  have hl : off t k < allIds.length := by rw [allIds_len]; omega
  have h1 : allIds[off t k]? = some (t, k) := by
    unfold off at hl ⊢
    rw [List.getElem?_eq_getElem hl]
    congr 1
    exact List.getElem_idxOf hl
  rw [nthD_get allIds (off t k) (99, 0) hl] at h1
  exact Option.some.inj h1
