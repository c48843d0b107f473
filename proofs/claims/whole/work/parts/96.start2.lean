/-! The law's own start -/
theorem clen_31 : ∀ i, i < 5 → nthD clen i 0 < 2 ^ 31 := by decide +kernel
theorem ins0 : lw_tbl[174]? = some (.instantiable RX0 2) := by decide +kernel
theorem ins1 : lw_tbl[89]? = some (.instantiable RX1 5) := by decide +kernel
theorem ins2 : lw_tbl[168]? = some (.instantiable RX2 10) := by decide +kernel
theorem ins3 : lw_tbl[214]? = some (.instantiable RX3 10) := by decide +kernel
theorem ins4 : lw_tbl[192]? = some (.instantiable RX4 4) := by decide +kernel
theorem ins5 : lw_tbl[151]? = some (.instantiable RX5 2) := by decide +kernel
theorem ins6 : lw_tbl[83]? = some (.instantiable RX6 7) := by decide +kernel
theorem ins7 : lw_tbl[292]? = some (.instantiable RX7 4) := by decide +kernel
theorem ins8 : lw_tbl[75]? = some (.instantiable RX8 9) := by decide +kernel
theorem ins9 : lw_tbl[796]? = some (.instantiable RX9 30) := by decide +kernel
theorem arc0 : lw_tbl[124]? = some (.arrayClass .int) := by decide +kernel
theorem arc1 : lw_tbl[340]? = some (.arrayClass .boolean) := by decide +kernel
theorem arc2 : lw_tbl[257]? = some (.arrayClass .long) := by decide +kernel
theorem arc3 : lw_tbl[157]? = some (.arrayOver (.object RX1)) := by decide +kernel
theorem arc4 : lw_tbl[220]? = some (.arrayOver (.array .int)) := by decide +kernel
theorem cs_ly : lw_tbl[390]? = some (.laysStatic "java/lang/String" "COMPACT_STRINGS" "Z") := by decide +kernel
theorem cs_in : lw_tbl[68]? = some (.initialized "java/lang/String") := by decide +kernel
theorem si_ly : lw_tbl[406]? = some (.laysStatic "jdk/internal/util/Preconditions" "SIOOBE_FORMATTER" "Ljava/util/function/BiFunction;") := by decide +kernel
theorem si_in : lw_tbl[70]? = some (.initialized "jdk/internal/util/Preconditions") := by decide +kernel
theorem nest_of {w : Cond} (hw : isNest w = true) {args : Array Value} {s : State} (h : w.before args s = true) : va_Nw w s := by
  cases w <;> first | exact h | (simp [isNest] at hw)
theorem KK.start {p : Program} {s : State} {m : MethodId} {meth : Method} {c : Code} (l : Launch) {b L : Nat} {xs : Nat → Int32} (hL : L ≤ 2048) (C0 : lw_At p s m meth c b L xs) : ∃ E : EV, eL E = l ∧ eB E = s.heap.size ∧ eS E 65 0 = b ∧ eN E = L ∧ eX E = xs ∧ KK E s := by
  obtain ⟨hx, hb, hr, hml, hown, hts, hX, hbl, hlocks, hgv⟩ := C0
  have hfl : ∀ w ∈ fC, w.before #[Value.ref b] s = true := flat_of_before _ hgv
  have fat : ∀ {i : Nat} {w : Cond}, fC[i]? = some w → w.before #[Value.ref b] s = true := fun h => hfl _ (List.mem_of_getElem? h)
  have lat : ∀ {i : Nat} {w : Cond}, lw_tbl[i]? = some w → w.before #[Value.ref b] s = true := fun h => hts _ (List.mem_of_getElem? h)
  have hA : ∀ a : Nat, a < s.heap.size → ¬ (fun q : Nat => s.heap.size ≤ q) a := fun a h => Nat.not_le.mpr h
  have hgw : ∀ w ∈ gw, w.before #[Value.ref b] s = true := fun w h => hts w (List.mem_filter.mp h).1
  obtain ⟨c0, i0, k0⟩ := u_known (n := 2) hgw iX0 (lat ins0)
  obtain ⟨c1, i1, k1⟩ := u_known (n := 5) hgw iX1 (lat ins1)
  obtain ⟨c2, i2, k2⟩ := u_known (n := 10) hgw iX2 (lat ins2)
  obtain ⟨c3, i3, k3⟩ := u_known (n := 10) hgw iX3 (lat ins3)
  obtain ⟨c4, i4, k4⟩ := u_known (n := 4) hgw iX4 (lat ins4)
  obtain ⟨c5, i5, k5⟩ := u_known (n := 2) hgw iX5 (lat ins5)
  obtain ⟨c6, i6, k6⟩ := u_known (n := 7) hgw iX6 (lat ins6)
  obtain ⟨c7, i7, k7⟩ := u_known (n := 4) hgw iX7 (lat ins7)
  obtain ⟨c8, i8, k8⟩ := u_known (n := 9) hgw iX8 (lat ins8)
  obtain ⟨c9, i9, k9⟩ := u_known (n := 30) hgw iX9 (lat ins9)
  have h0 : ∀ k : Nat, ∃ q : ClassId × (Nat → Nat), ∀ z : vw_C, vwCl[k]? = some z → u_Kn s z.1 z.2.1 z.2.2 q.1 q.2 := by
    intro k
    match k with
    | 0 => exact ⟨(c0, i0), fun z hz => by cases hz; exact k0⟩
    | 1 => exact ⟨(c1, i1), fun z hz => by cases hz; exact k1⟩
    | 2 => exact ⟨(c2, i2), fun z hz => by cases hz; exact k2⟩
    | 3 => exact ⟨(c3, i3), fun z hz => by cases hz; exact k3⟩
    | 4 => exact ⟨(c4, i4), fun z hz => by cases hz; exact k4⟩
    | 5 => exact ⟨(c5, i5), fun z hz => by cases hz; exact k5⟩
    | 6 => exact ⟨(c6, i6), fun z hz => by cases hz; exact k6⟩
    | 7 => exact ⟨(c7, i7), fun z hz => by cases hz; exact k7⟩
    | 8 => exact ⟨(c8, i8), fun z hz => by cases hz; exact k8⟩
    | 9 => exact ⟨(c9, i9), fun z hz => by cases hz; exact k9⟩
    | k + 10 => exact ⟨(c0, i0), fun z hz => by simp [vwCl] at hz⟩
  obtain ⟨f, hf⟩ := Classical.axiomOfChoice h0
  obtain ⟨a0, ka0, co0, n0, m0, d0⟩ := Cond.arrayClass_spec (lat arc0)
  obtain ⟨a1, ka1, co1, n1, m1, d1⟩ := Cond.arrayClass_spec (lat arc1)
  obtain ⟨a2, ka2, co2, n2, m2, d2⟩ := Cond.arrayClass_spec (lat arc2)
  have hAO : va_AO RX1 s := va_AO.of (lat arc3)
  obtain ⟨co3, a3, ka3, o1, o2, o3, o4, o5⟩ := Cond.arrayOver_spec (lat arc3)
  have hAA : AOA s := lat arc4
  obtain ⟨co4, a4, ka4, p1, p2, p3, p4, p5⟩ := AOA.spec hAA
  have hst : ∀ i : Nat, ∃ t : Nat, i < 5 → va_Z (nthD stN i ("", "")).1 (nthD stN i ("", "")).2 "[I" (.ref t) (fun q : Nat => s.heap.size ≤ q) s s.heap ∧ va_T .int t (nthD clen i 0) (fun j => .int (nthD (nthD ctab i []) j 0)) (fun q : Nat => s.heap.size ≤ q) s s.heap := by
    intro i
    by_cases hi : i < 5
    · obtain ⟨t, ht, hT⟩ := va_Tof (tm := stT i) (ty := .int) (N := nthD clen i 0) (f := fun j => .int (nthD (nthD ctab i []) j 0)) (A := fun q : Nat => s.heap.size ≤ q) (clen_31 i hi) (fat (fc_arr i hi)) (va_eqt (fat (fc_len i hi))) (fun j hj => va_eqt (fat (fc_el i hi j hj))) hA
      exact ⟨t, fun _ => ⟨va_Zof (lat (ly_at i hi)) (lat (in_at i hi)) ht hA, hT⟩⟩
    · exact ⟨0, fun h => absurd h hi⟩
  obtain ⟨tb, htb⟩ := Classical.axiomOfChoice hst
  obtain ⟨adK, adV, hSS, hev⟩ := vk_Sof (tm := srT) (N := 9) (len := slen) (byt := stxt) (A := fun q : Nat => s.heap.size ≤ q) fs_sl (fun i hi => fat (fs_ex i hi)) (fun i hi => fat (fs_co i hi)) (fun i hi => fat (fs_ar i hi)) (fun i hi => fat (fs_le i hi)) (fun i hi j hj => fat (fs_el i hi j hj)) (fun i j hi hj hij => by
    rcases Nat.lt_or_ge i j with z | z
    · exact Or.inl (fat (fs_ne i hi j hj z))
    · exact Or.inr (fat (fs_ne j hj i hi (by omega)))) hA
  have hcs : va_Z "java/lang/String" "COMPACT_STRINGS" "Z" (.int 1) (fun q : Nat => s.heap.size ≤ q) s s.heap := va_Zof (lat cs_ly) (lat cs_in) (va_eqt (fat fc_cs)) hA
  obtain ⟨f68, hsi⟩ : ∃ t : Nat, va_Z "jdk/internal/util/Preconditions" "SIOOBE_FORMATTER" "Ljava/util/function/BiFunction;" .null (fun q : Nat => s.heap.size ≤ q) s s.heap ∨ va_Z "jdk/internal/util/Preconditions" "SIOOBE_FORMATTER" "Ljava/util/function/BiFunction;" (.ref t) (fun q : Nat => s.heap.size ≤ q) s s.heap := by
    rcases va_Zqof (lat si_ly) (lat si_in) (fat fc_si) hA with z | ⟨t, z⟩
    · exact ⟨0, Or.inl z⟩
    · exact ⟨t, Or.inr z⟩
  refine ⟨(l, s.heap.size, fun t k => match t with | 65 => b | 66 => adK k | 67 => adV k | 68 => f68 | _ => tb (t - 60), (fun k => (f k).1, fun k => (f k).2), fun k => match k with | 0 => a0 | 1 => a1 | 2 => a2 | 3 => a3 | _ => a4, L, xs), rfl, rfl, rfl, rfl, rfl, ⟨fun k q hq => hf k q hq, fun k q hq => ?_⟩, fun w hw => nest_of (List.mem_filter.mp hw).2 (hts w (List.mem_filter.mp hw).1), hAO, hAA, ⟨fun i hi => ?_, ⟨hcs, hsi⟩, hSS, hX⟩, fun i hi => vk_R.of (lat (sr_at i hi)) (hev i hi), hbl, hL, Nat.le_refl _⟩
  · match k, hq with
    | 0, hq =>
      cases hq
      exact ⟨fun n z => ⟨fun k h => (by cases h), ka0, m0, co0, d0⟩, n0⟩
    | 1, hq =>
      cases hq
      exact ⟨fun n z => ⟨fun k h => (by cases h), ka1, m1, co1, d1⟩, n1⟩
    | 2, hq =>
      cases hq
      exact ⟨fun n z => ⟨fun k h => (by cases h), ka2, m2, co2, d2⟩, n2⟩
    | 3, hq =>
      cases hq
      exact ⟨fun n z => ⟨fun k h => (by cases h), ka3, o3, co3, o4⟩, ka3, co3, o3, o4, o1, o5⟩
    | 4, hq =>
      cases hq
      exact ⟨fun n z => ⟨fun k h => (by cases h), ka4, p3, co4, p4⟩, p5⟩
    | k + 5, hq => simp [KKt] at hq
  · match i, hi with
    | 0, hi => exact htb 0 hi
    | 1, hi => exact htb 1 hi
    | 2, hi => exact htb 2 hi
    | 3, hi => exact htb 3 hi
    | 4, hi => exact htb 4 hi
    | i + 5, hi => omega
set_option maxHeartbeats 4000000 in
theorem whole_start {p : Program} {e : Env} {s : State} {m : MethodId} {below : List Frame} {meth : Method} {c : Code} (l : Launch) (hflags : l.flags = flags0) {b L : Nat} {xs : Nat → Int32} (hL : L ≤ 2048) (C0 : lw_At p s m meth c b L xs) : W p l e room_1 s m #[Value.ref b] below meth c s.heap [] 0 0 (lw_Z below #[Value.ref b] s) (entryFrame m ([Value.ref b] : List Value).toArray 4) := by
  obtain ⟨E, rfl, e2, e3, e4, e5, hKK⟩ := KK.start l hL C0
  obtain ⟨hx, hb, hr, hml, hown, hts, hX, hbl, hlocks, hgv⟩ := C0
  have hs := l_law (L := L) (xs := xs) (by omega) (d := 30) (by decide) (Q := fun r _ => r = some (vi 1)) (fun _ _ => rfl) (fun _ _ _ => 0) (fun _ _ => 0) aT
  have hC : Ctx E ML_law 30 0 117 room_1 p s m meth c #[Value.ref b] := ⟨hx, hb, hml, hown, fun w h => hts w (List.mem_filter.mp h).1, fun h => (by cases h), hKK, Nat.zero_le _, Nat.le_refl _, Nat.le_of_ble_eq_true rfl, Nat.le_of_ble_eq_true rfl, Nat.le_of_ble_eq_true rfl, Nat.le_trans (Nat.sub_le _ _) (Nat.le_trans sz_all (Nat.le_of_ble_eq_true rfl))⟩
  have hRet : RetOk E ML_law 0 117 (fun r _ => r = some (vi 1)) room_1 (lw_Z below #[Value.ref b] s) p e s m #[Value.ref b] below meth c := by
    intro H locs la v σ pc g1 g2 g3 g4 g5 g6 g7
    have g4 : v = some (vi 1) := g4
    subst g4
    refine va_forget (fun q hq => by have := g2.2.2 q hq; rw [← e2]; exact this) ?_
    refine W.widen (k := 600000) (n := 7302250) (Nat.le_of_ble_eq_true rfl) (Nat.le_trans (Nat.sub_le _ _) (Nat.le_trans sz_all (Nat.le_of_ble_eq_true rfl))) ?_
    exact lw_ret hx hb hr hlocks g7
  have hR : Rep E s.heap ((fun _ _ _ => 0, fun _ _ => 0, 0, aT) : ST) := ⟨fun k q h => by simp [wsO] at h, fun _ => by rw [e2]; rfl, Nat.zero_le _⟩
  have hca : conc E (vr 65 0) = Value.ref b := by
    show Value.ref (adr E 65 0) = _
    unfold adr
    rw [if_neg (by decide), e3]
  have hH := HL_entry (E := E) (as := [vr 65 0]) (n := 4) (Nat.le_of_ble_eq_true rfl)
  have hm1 : ([vr 65 0] : List AV).map (conc E) = [Value.ref b] := by show [conc E (vr 65 0)] = _; rw [hca]
  rw [hm1] at hH
  have hfin := hs E ⟨e4, e5⟩ p e s m #[Value.ref b] below meth c room_1 _ 0 hC hRet s.heap [] _ hR va_S.rf hH (Nat.le_refl _) (Nat.zero_le _) (fun a h => by cases h) (fun i a h => mkL_vok (n := 0) [vr 65 0] (fun a ha => by rw [List.mem_singleton.mp ha]; exact Or.inr (Or.inl ⟨by decide, by decide, rfl⟩)) i a (padL_get 4 (mkL [vr 65 0]) i a h))
  rw [lg_entry_eq]
  exact hfin
