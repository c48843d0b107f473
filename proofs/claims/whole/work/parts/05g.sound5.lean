/-! SOUNDNESS, 6: calls -/
theorem wsum_eq (E : EV) : ∀ st : List AV, ((st.map (conc E)).map fun v => v.category).sum = wsum st
  | [] => rfl
  | a :: r => by
    simp only [List.map_cons, List.sum_cons, wsum, conc_cat]
    rw [← wsum_eq E r]
theorem spl_eq : ∀ (na : Nat) (acc st as r : List AV), spl na acc st = (as, r) → as.length = acc.length + na → st = (as.take (as.length - acc.length)).reverse ++ r ∧ as.drop (as.length - acc.length) = acc
  | 0, acc, st, as, r, h, hl => by
    simp only [spl, Prod.mk.injEq] at h
    obtain ⟨rfl, rfl⟩ := h
    simp
  | na + 1, acc, [], as, r, h, hl => by
    simp only [spl, Prod.mk.injEq] at h
    obtain ⟨rfl, rfl⟩ := h
    omega
  | na + 1, acc, a :: st, as, r, h, hl => by
    simp only [spl] at h
    obtain ⟨h1, h2⟩ := spl_eq na (a :: acc) st as r h (by simp; omega)
    simp only [List.length_cons] at h1 h2
    have hk : as.length - acc.length = (as.length - (acc.length + 1)) + 1 := by omega
    have h3 : as[as.length - (acc.length + 1)]? = some a := by
      have h4 : (as.drop (as.length - (acc.length + 1)))[0]? = some a := by rw [h2]; rfl
      rw [List.getElem?_drop] at h4
      simpa using h4
    refine ⟨?_, ?_⟩
    · rw [hk, List.take_succ, h3]
      simp only [Option.toList_some, List.reverse_append, List.reverse_cons, List.reverse_nil, List.nil_append, List.singleton_append, List.cons_append]
      rw [← h1]
    · rw [hk, ← List.drop_drop, h2]
      rfl
theorem spl_st {na : Nat} {st as r : List AV} (h : spl na [] st = (as, r)) (hl : as.length = na) : st = as.reverse ++ r := by
  obtain ⟨h1, -⟩ := spl_eq na [] st as r h (by simpa using hl)
  simpa using h1
theorem spl_len : ∀ (na : Nat) (acc st as : List AV) (r : List AV), spl na acc st = (as, r) → na ≤ st.length → as.length = acc.length + na
  | 0, acc, st, as, r, h, _ => by
    simp only [spl, Prod.mk.injEq] at h
    rw [← h.1]; rfl
  | na + 1, acc, [], as, r, h, hl => by simp at hl
  | na + 1, acc, a :: st, as, r, h, hl => by
    simp only [spl] at h
    have := spl_len na (a :: acc) st as r h (by simpa using hl)
    rw [this]
    simp
    omega
theorem spl_short : ∀ (na : Nat) (acc st as : List AV) (r : List AV), spl na acc st = (as, r) → st.length < na → r = []
  | 0, acc, st, as, r, h, hl => by simp at hl
  | na + 1, acc, [], as, r, h, hl => by
    simp only [spl, Prod.mk.injEq] at h
    exact h.2.symm
  | na + 1, acc, a :: st, as, r, h, hl => by
    simp only [spl] at h
    exact spl_short na (a :: acc) st as r h (by simpa using hl)
section SOUND5
variable {E : EV} {M : MD} {d N0 N1 : Nat} {p : Program} {e : Env} {R : Room} {s : State} {m : MethodId} {args : Array Value} {below : List Frame} {meth : Method} {c : Code} {H : Heap} {locs : List Loc} {cells slots : Nat} {Z : State → Prop} {pc : Nat} {la : Array Slot} {rest st0 : List Value} {σ : ST}
theorem r_after {mc ms n1 : Nat} {Q1 : Option AV → ST → Prop} {aa : Array Value} (hr : va_Run p (eL E) e R s m args below meth c H locs cells slots mc ms (F0 m pc la st0) rest (QcA E n1 Q1 aa) (eA E)) (hS : va_S (eA E) s.heap H locs)
    (kk : ∀ (r : Option AV) (σ1 : ST) (H1 : Heap) (locs1 : List Loc), Q1 r σ1 → Rep E H1 σ1 → σ1.2.2.1 = n1 → (∀ a, r = some a → vok n1 a) → va_S (eA E) s.heap H1 locs1 → W p (eL E) e R s m args below meth c H1 locs1 (cells + mc) (slots + ms) Z (F0 m (pc + 3) la ((r.map (conc E)).toList ++ rest))) : W p (eL E) e R s m args below meth c H locs cells slots Z (F0 m pc la st0) := by
  intro T hT X
  obtain ⟨v, st₀, t, T', L, h0, X', hL, e1, e2, ⟨⟨r, σ1, hv, hq, hRe, hn1, hok⟩, hz, hk⟩, st⟩ := hr T hT X
  cases hv
  rw [h0] at hz hk
  obtain ⟨t2, a1, b1⟩ := kk r σ1 T'.heap (locs ++ L) hq (by rw [e1]; exact hRe) hn1 hok
    ⟨Nat.le_trans hS.1 (by rw [e1]; exact hz), fun q h1 h2 => by rw [e1, hk q (Nat.lt_of_lt_of_le h1 hS.1) h2]; exact hS.2.1 q h1 h2, fun q hq => by
      rcases List.mem_append.mp hq with h | h
      · exact hS.2.2 q h
      · exact hL q h⟩ T' rfl X'
  exact ⟨t2, st t2 a1, b1⟩
theorem pre_A {as : List AV} (hC : Ctx E M d N0 N1 R p s m meth c args) (hR : Rep E H σ) (hS : va_S (eA E) s.heap H locs) (hok : ∀ a ∈ as, vok σ.2.2.1 a) : ∀ U : State, U.heap = H → s.WarmedH U.vm → PcA E as σ (as.map (conc E)).toArray U := by
  intro U hU hW
  have hKK := hC.2.2.2.2.2.2.1
  have h9 := hKK.2.2.2.2.2.2.2.2
  refine ⟨rfl, KK.move hW (fun q hq => ?_) ?_ hKK, by rw [hU]; exact hR, hok⟩
  · rw [hU]
    exact hS.2.1 q (by omega) (Nat.not_le.mpr hq)
  · rw [hU]
    exact Nat.le_trans h9 hS.1
theorem gw_sub {Y : Yd} (hY : ywd Y ∈ gw) : GoodIn gw (ywd Y :: gw) := by
  intro w hw
  rcases List.mem_cons.mp hw with rfl | h
  · exact ⟨hY, gw_good hY⟩
  · exact ⟨h, gw_good h⟩
theorem okY_of {Y : Yd} {na : Nat} (h : okY Y na = true) : plainName Y.1.cls = true ∧ Y.1.cls ≠ "java/lang/invoke/MethodHandle" ∧ Y.1.cls ≠ "java/lang/invoke/VarHandle" ∧ (parseMethodDescriptor Y.1.desc).map (fun d => d.parameters.length) = some na ∧ Y.2.2.1 ≤ 21 := by
  simp only [okY, Bool.and_eq_true, decide_eq_true_eq] at h
  obtain ⟨⟨⟨⟨h1, h2⟩, h3⟩, h4⟩, h5⟩ := h
  exact ⟨h1, h2, h3, h4, h5⟩
theorem room_ok {d1 mc ms ml : Nat} (hd : d1 < d) (h1 : d ≤ R.frames) (h2 : 40 * d ≤ R.locals) (h3 : ml ≤ 21) : (rmd d1 mc ms).frames + 1 ≤ R.frames ∧ 8 + (ml + 11) + (rmd d1 mc ms).locals ≤ R.locals := by
  simp only [rmd]
  omega
/-- a call of an instance's method -/
theorem r_callV {idx na : Nat} {Y : Yd} {b : Nat} {as : List AV} {a0 : AV} {r : List AV} {n1 d1 : Nat} {nest : Bool} {Q1 : Option AV → ST → Prop} (hC : Ctx E M d N0 N1 R p s m meth c args) (hok : okY Y na = true) (hY : ywd Y ∈ gw)
    (hl : if nest = true then Cond.methodLinkNest (mP M).1 idx Y.1 "OutcropAges" ∈ nestW else Cond.methodLink (mP M).1 idx Y.1 ∈ gw) (hi : Cond.instanceMethod Y.1 ∈ gw) (hsel : Cond.selects Y.1.cls Y.1 Y.1 ∈ gw) (hin : Cond.initialized Y.1.cls ∈ gw)
    (ha0 : conc E a0 = .ref b) (hrc : ∃ cell : Cell, H[b]? = some cell ∧ cell.vm.isStatics = false ∧ s.vm.findClass Y.1.cls = some cell.cls) (hlen : as.length = na) (hla : la.size = (mY M).2.2.1) (hw : wsum r ≤ 8)
    (hR : Rep E H σ) (hS : va_S (eA E) s.heap H locs) (hvk : ∀ a ∈ a0 :: as, vok σ.2.2.1 a) (hN0 : N0 ≤ σ.2.2.1) (hd : d1 < d) (hn1 : n1 ≤ N1) (hT : Tri d1 Y n1 (a0 :: as) σ Q1) (hdg : decode (mY M).2.1 pc = .ok (.invokevirtual idx, 3))
    (kk : ∀ (v : Option AV) (σ1 : ST) (H1 : Heap) (locs1 : List Loc), Q1 v σ1 → Rep E H1 σ1 → σ1.2.2.1 = n1 → (∀ a, v = some a → vok n1 a) → va_S (eA E) s.heap H1 locs1 → W p (eL E) e R s m args below meth c H1 locs1 (n1 - N0) (sz n1 - sz N0) Z (F0 m (pc + 3) la ((v.toList ++ r).map (conc E)))) :
    W p (eL E) e R s m args below meth c H locs (σ.2.2.1 - N0) (sz σ.2.2.1 - sz N0) Z (F0 m pc la ((as.reverse ++ a0 :: r).map (conc E))) := by
  obtain ⟨hx, hb, hml, hown, hts, hini, hKK, hn01, hn117, hfr, hlo, hcl, hsl⟩ := id hC
  obtain ⟨t1, t2, t3⟩ := hT
  obtain ⟨y1, y2, y3, y4, y5⟩ := okY_of hok
  have hm1 := sz_mono hN0
  have hm2 := sz_mono t1
  have hm3 := sz_mono hn1
  have hst : ((as.reverse ++ a0 :: r).map (conc E)) = (as.map (conc E)).reverse ++ .ref b :: r.map (conc E) := by
    rw [List.map_append, List.map_reverse, List.map_cons, ha0]
  have hpre : ∀ U : State, U.heap = H → s.WarmedH U.vm → PcA E (a0 :: as) σ (Value.ref b :: as.map (conc E)).toArray U := by
    rw [← ha0, ← List.map_cons]
    exact pre_A hC hR hS hvk
  have hwr : 2 * (F0 m pc la ((as.reverse ++ a0 :: r).map (conc E))).monitorRoom + ((r.map (conc E)).map fun v => v.category).sum ≤ 8 := by
    rw [wsum_eq]
    show 2 * 0 + _ ≤ 8
    omega
  refine r_after (rest := r.map (conc E)) (Q1 := Q1) (n1 := n1) (mc := n1 - σ.2.2.1) (ms := sz n1 - sz σ.2.2.1) (aa := (Value.ref b :: as.map (conc E)).toArray) ?_ hS (fun v σ1 H1 locs1 g1 g2 g3 g4 g5 => ?_)
  · cases nest with
    | false =>
      rw [if_neg (by decide)] at hl
      exact va_runV (Ts := gw) (C := Y.1.cls) (own := (mP M).1) (bytes := Y.2.1) (maxL := Y.2.2.1) (ret := Y.2.2.2) (As := as.map (conc E)) ⟨hx, hb, hml, hown, hts⟩ (t3 E) (cwV na hts (fun w h => by
          simp only [wsV, List.mem_append, List.mem_cons, List.not_mem_nil, or_false] at h
          rcases h with (rfl | rfl | rfl | rfl) | h
          · exact ⟨hl, gw_good hl⟩
          · exact ⟨hi, gw_good hi⟩
          · exact ⟨hsel, gw_good hsel⟩
          · exact ⟨hin, gw_good hin⟩
          · exact gw_sub hY w (List.mem_cons.mpr h)) rfl rfl rfl ⟨rfl, y2, y3, y4⟩ (room_ok hd hfr hlo y5)) ⟨PcA.blind, hrc, hpre⟩ rfl (by rw [List.length_map]; exact hlen) hla hst hwr hdg ⟨by omega, by omega⟩
    | true =>
      rw [if_pos rfl] at hl
      exact va_runVN (Ts := gw) (C := Y.1.cls) (own := (mP M).1) (bytes := Y.2.1) (maxL := Y.2.2.1) (ret := Y.2.2.2) (As := as.map (conc E)) ⟨hx, hb, hml, hown, hts⟩ (t3 E) ⟨va_cnB na hts (gw_sub hY) rfl rfl rfl (hKK.2.1 _ hl) (hts _ hin) ⟨y2, y3, y4⟩ (room_ok hd hfr hlo y5), hts _ hi, hts _ hsel⟩ ⟨PcA.blind, hrc, hpre⟩ rfl (by rw [List.length_map]; exact hlen) hla hst hwr hdg ⟨by omega, by omega⟩
  · have hz := kk v σ1 H1 locs1 g1 g2 g3 g4 g5
    rw [show σ.2.2.1 - N0 + (n1 - σ.2.2.1) = n1 - N0 by omega, show sz σ.2.2.1 - sz N0 + (sz n1 - sz σ.2.2.1) = sz n1 - sz N0 by omega]
    rw [List.map_append] at hz
    cases v <;> exact hz
theorem r_callS {idx na : Nat} {Y : Yd} {as : List AV} {r : List AV} {n1 d1 : Nat} {nest : Bool} {Q1 : Option AV → ST → Prop} (hC : Ctx E M d N0 N1 R p s m meth c args) (hok : okY Y na = true) (hY : ywd Y ∈ gw)
    (hl : if nest = true then Cond.methodLinkNest (mP M).1 idx Y.1 "OutcropAges" ∈ nestW else Cond.methodLink (mP M).1 idx Y.1 ∈ gw) (hi : Cond.static Y.1 ∈ gw) (hin : Cond.initialized Y.1.cls ∈ gw) (hlen : as.length = na) (hla : la.size = (mY M).2.2.1) (hw : wsum r ≤ 8)
    (hR : Rep E H σ) (hS : va_S (eA E) s.heap H locs) (hvk : ∀ a ∈ as, vok σ.2.2.1 a) (hN0 : N0 ≤ σ.2.2.1) (hd : d1 < d) (hn1 : n1 ≤ N1) (hT : Tri d1 Y n1 as σ Q1) (hdg : decode (mY M).2.1 pc = .ok (.invokestatic idx, 3))
    (kk : ∀ (v : Option AV) (σ1 : ST) (H1 : Heap) (locs1 : List Loc), Q1 v σ1 → Rep E H1 σ1 → σ1.2.2.1 = n1 → (∀ a, v = some a → vok n1 a) → va_S (eA E) s.heap H1 locs1 → W p (eL E) e R s m args below meth c H1 locs1 (n1 - N0) (sz n1 - sz N0) Z (F0 m (pc + 3) la ((v.toList ++ r).map (conc E)))) :
    W p (eL E) e R s m args below meth c H locs (σ.2.2.1 - N0) (sz σ.2.2.1 - sz N0) Z (F0 m pc la ((as.reverse ++ r).map (conc E))) := by
  obtain ⟨hx, hb, hml, hown, hts, hini, hKK, hn01, hn117, hfr, hlo, hcl, hsl⟩ := id hC
  obtain ⟨t1, t2, t3⟩ := hT
  obtain ⟨y1, y2, y3, y4, y5⟩ := okY_of hok
  have hm1 := sz_mono hN0
  have hm2 := sz_mono t1
  have hm3 := sz_mono hn1
  have hst : ((as.reverse ++ r).map (conc E)) = (as.map (conc E)).reverse ++ r.map (conc E) := by
    rw [List.map_append, List.map_reverse]
  have hwr : 2 * (F0 m pc la ((as.reverse ++ r).map (conc E))).monitorRoom + ((r.map (conc E)).map fun v => v.category).sum ≤ 8 := by
    rw [wsum_eq]
    show 2 * 0 + _ ≤ 8
    omega
  refine r_after (rest := r.map (conc E)) (Q1 := Q1) (n1 := n1) (mc := n1 - σ.2.2.1) (ms := sz n1 - sz σ.2.2.1) (aa := (as.map (conc E)).toArray) ?_ hS (fun v σ1 H1 locs1 g1 g2 g3 g4 g5 => ?_)
  · cases nest with
    | false =>
      rw [if_neg (by decide)] at hl
      exact va_runS (Ts := gw) (own := (mP M).1) (bytes := Y.2.1) (maxL := Y.2.2.1) (ret := Y.2.2.2) (As := as.map (conc E)) ⟨hx, hb, hml, hown, hts⟩ (t3 E) (va_cwS na hts (fun w h => by
          simp only [va_wsS, List.mem_append, List.mem_cons, List.not_mem_nil, or_false] at h
          rcases h with (rfl | rfl | rfl) | h
          · exact ⟨hl, gw_good hl⟩
          · exact ⟨hi, gw_good hi⟩
          · exact ⟨hin, gw_good hin⟩
          · exact gw_sub hY w (List.mem_cons.mpr h)) rfl rfl rfl ⟨y2, y3, y4⟩ (room_ok hd hfr hlo y5)) ⟨PcA.blind, pre_A hC hR hS hvk⟩ rfl (by rw [List.length_map]; exact hlen) hla hst hwr hdg ⟨by omega, by omega⟩
    | true =>
      rw [if_pos rfl] at hl
      exact va_runSN (Ts := gw) (own := (mP M).1) (bytes := Y.2.1) (maxL := Y.2.2.1) (ret := Y.2.2.2) (As := as.map (conc E)) ⟨hx, hb, hml, hown, hts⟩ (t3 E) ⟨va_cnB na hts (gw_sub hY) rfl rfl rfl (hKK.2.1 _ hl) (hts _ hin) ⟨y2, y3, y4⟩ (room_ok hd hfr hlo y5), hts _ hi, trivial⟩ ⟨PcA.blind, pre_A hC hR hS hvk⟩ rfl (by rw [List.length_map]; exact hlen) hla hst hwr hdg ⟨by omega, by omega⟩
  · have hz := kk v σ1 H1 locs1 g1 g2 g3 g4 g5
    rw [show σ.2.2.1 - N0 + (n1 - σ.2.2.1) = n1 - N0 by omega, show sz σ.2.2.1 - sz N0 + (sz n1 - sz σ.2.2.1) = sz n1 - sz N0 by omega]
    rw [List.map_append] at hz
    cases v <;> exact hz
theorem r_callI {idx na : Nat} {Y : Yd} {b : Nat} {as : List AV} {a0 : AV} {r : List AV} {n1 d1 : Nat} {nest : Bool} {Q1 : Option AV → ST → Prop} (hC : Ctx E M d N0 N1 R p s m meth c args) (hok : okY Y na = true) (hY : ywd Y ∈ gw) (hnm : Y.1.name = "<init>") (hrt : Y.2.2.2 = none)
    (hl : if nest = true then Cond.methodLinkNest (mP M).1 idx Y.1 "OutcropAges" ∈ nestW else Cond.methodLink (mP M).1 idx Y.1 ∈ gw) (hi : Cond.instanceMethod Y.1 ∈ gw) (hin : Cond.initialized Y.1.cls ∈ gw)
    (ha0 : conc E a0 = .ref b) (hlen : as.length = na) (hla : la.size = (mY M).2.2.1) (hw : wsum r ≤ 8)
    (hR : Rep E H σ) (hS : va_S (eA E) s.heap H locs) (hvk : ∀ a ∈ a0 :: as, vok σ.2.2.1 a) (hN0 : N0 ≤ σ.2.2.1) (hd : d1 < d) (hn1 : n1 ≤ N1) (hT : Tri d1 Y n1 (a0 :: as) σ Q1) (hdg : decode (mY M).2.1 pc = .ok (.invokespecial idx, 3))
    (kk : ∀ (v : Option AV) (σ1 : ST) (H1 : Heap) (locs1 : List Loc), Q1 v σ1 → Rep E H1 σ1 → σ1.2.2.1 = n1 → (∀ a, v = some a → vok n1 a) → va_S (eA E) s.heap H1 locs1 → W p (eL E) e R s m args below meth c H1 locs1 (n1 - N0) (sz n1 - sz N0) Z (F0 m (pc + 3) la ((v.toList ++ r).map (conc E)))) :
    W p (eL E) e R s m args below meth c H locs (σ.2.2.1 - N0) (sz σ.2.2.1 - sz N0) Z (F0 m pc la ((as.reverse ++ a0 :: r).map (conc E))) := by
  obtain ⟨hx, hb, hml, hown, hts, hini, hKK, hn01, hn117, hfr, hlo, hcl, hsl⟩ := id hC
  obtain ⟨t1, t2, t3⟩ := hT
  obtain ⟨y1, y2, y3, y4, y5⟩ := okY_of hok
  have hm1 := sz_mono hN0
  have hm2 := sz_mono t1
  have hm3 := sz_mono hn1
  have hst : ((as.reverse ++ a0 :: r).map (conc E)) = (as.map (conc E)).reverse ++ .ref b :: r.map (conc E) := by
    rw [List.map_append, List.map_reverse, List.map_cons, ha0]
  have hpre : ∀ U : State, U.heap = H → s.WarmedH U.vm → PcA E (a0 :: as) σ (Value.ref b :: as.map (conc E)).toArray U := by
    rw [← ha0, ← List.map_cons]
    exact pre_A hC hR hS hvk
  have hwr : 2 * (F0 m pc la ((as.reverse ++ a0 :: r).map (conc E))).monitorRoom + ((r.map (conc E)).map fun v => v.category).sum ≤ 8 := by
    rw [wsum_eq]
    show 2 * 0 + _ ≤ 8
    omega
  obtain ⟨yn, yb, ym, yr⟩ := Y
  simp only at hrt
  subst hrt
  refine r_after (rest := r.map (conc E)) (Q1 := Q1) (n1 := n1) (mc := n1 - σ.2.2.1) (ms := sz n1 - sz σ.2.2.1) (aa := (Value.ref b :: as.map (conc E)).toArray) ?_ hS (fun v σ1 H1 locs1 g1 g2 g3 g4 g5 => ?_)
  · cases nest with
    | false =>
      rw [if_neg (by decide)] at hl
      exact va_runI (Ts := gw) (own := (mP M).1) (bytes := yb) (maxL := ym) (As := as.map (conc E)) ⟨hx, hb, hml, hown, hts⟩ (t3 E) (cwI na hts (gw_sub hY) rfl rfl rfl (hts _ hin) (hts _ hl) (hts _ hi) hnm ⟨y2, y3, y4⟩ (room_ok hd hfr hlo y5)) ⟨PcA.blind, hpre⟩ rfl (by rw [List.length_map]; exact hlen) hla hst hwr hdg ⟨by omega, by omega⟩
    | true =>
      rw [if_pos rfl] at hl
      exact va_runIN (Ts := gw) (own := (mP M).1) (bytes := yb) (maxL := ym) (As := as.map (conc E)) ⟨hx, hb, hml, hown, hts⟩ (t3 E) ⟨va_cnB na hts (gw_sub hY) rfl rfl rfl (hKK.2.1 _ hl) (hts _ hin) ⟨y2, y3, y4⟩ (room_ok hd hfr hlo y5), hnm, hts _ hi⟩ ⟨PcA.blind, hpre⟩ rfl (by rw [List.length_map]; exact hlen) hla hst hwr hdg ⟨by omega, by omega⟩
  · have hz := kk v σ1 H1 locs1 g1 g2 g3 g4 g5
    rw [show σ.2.2.1 - N0 + (n1 - σ.2.2.1) = n1 - N0 by omega, show sz σ.2.2.1 - sz N0 + (sz n1 - sz σ.2.2.1) = sz n1 - sz N0 by omega]
    rw [List.map_append] at hz
    cases v <;> exact hz
end SOUND5
