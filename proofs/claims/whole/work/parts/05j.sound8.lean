/-! SOUNDNESS, 9: a step, all steps, a method -/
theorem jmp_suf : ∀ (C : List EN) (t : Nat), jmp C t <:+ C
  | [], _ => by simp [jmp]
  | e :: r, t => by
    simp only [jmp]
    split
    · exact List.suffix_refl _
    · exact (jmp_suf r t).trans (List.suffix_cons _ _)
theorem jmp_head : ∀ (C : List EN) (t : Nat) (e : EN) (r : List EN), jmp C t = e :: r → e.1 = t
  | [], t, e, r, h => by simp [jmp] at h
  | a :: l, t, e, r, h => by
    simp only [jmp] at h
    split at h
    · rename_i hb
      cases h
      exact Nat.eq_of_beq_eq_true hb
    · exact jmp_head l t e r h
theorem wfc_suf {C l : List EN} (h : wfc C = true) (hs : l <:+ C) : wfc l = true := by
  obtain ⟨p, rfl⟩ := hs
  induction p with
  | nil => exact h
  | cons a p ih =>
    apply ih
    cases hq : p ++ l with
    | nil => rfl
    | cons b q =>
      rw [List.cons_append, hq] at h
      simp only [wfc, Bool.and_eq_true] at h
      exact h.2
theorem wfc_next {C r : List EN} {e e1 : EN} (h : wfc C = true) (hs : (e :: e1 :: r) <:+ C) : e1.1 = e.1 + e.2.2.1 := by
  have h1 := wfc_suf h hs
  simp only [wfc, Bool.and_eq_true, decide_eq_true_eq] at h1
  exact h1.1
theorem wsw_in {x : Int32} {go : Nat → Prop} {pc : Nat} : ∀ (os : List Int) (b : Nat) (ts : List Nat), swT pc os b ts = true → wsw x go ts → ∀ i o, os[i]? = some o → x = nI (b + i) → ∃ t : Nat, (pc : Int) + o = (t : Int) ∧ go t
  | [], b, ts, h1, h2, i, o, h3, h4 => by simp at h3
  | o1 :: os, b, [], h1, h2, i, o, h3, h4 => by simp [swT] at h1
  | o1 :: os, b, [v], h1, h2, i, o, h3, h4 => by simp [swT] at h1
  | o1 :: os, b, v :: t :: r, h1, h2, i, o, h3, h4 => by
    simp only [swT, Bool.and_eq_true, decide_eq_true_eq] at h1
    obtain ⟨⟨e1, e2⟩, e3⟩ := h1
    simp only [wsw] at h2
    cases i with
    | zero =>
      simp only [List.getElem?_cons_zero, Option.some.injEq] at h3
      subst h3
      exact ⟨t, e2, h2.1 (by rw [h4, e1]; rfl)⟩
    | succ i =>
      exact wsw_in os (b + 1) r e3 h2.2 i o (by simpa using h3) (by rw [h4]; congr 1; omega)
theorem wdf_out {x : Int32} {go : Prop} {pc : Nat} : ∀ (os : List Int) (b : Nat) (ts : List Nat), swT pc os b ts = true → wdf x go ts → (∀ i, i < os.length → ¬ x = nI (b + i)) → go
  | [], b, [], h1, h2, h3 => h2
  | [], b, _ :: _, h1, h2, h3 => by simp [swT] at h1
  | o1 :: os, b, [], h1, h2, h3 => by simp [swT] at h1
  | o1 :: os, b, [v], h1, h2, h3 => by simp [swT] at h1
  | o1 :: os, b, v :: t :: r, h1, h2, h3 => by
    simp only [swT, Bool.and_eq_true, decide_eq_true_eq] at h1
    obtain ⟨⟨e1, e2⟩, e3⟩ := h1
    simp only [wdf] at h2
    exact wdf_out os (b + 1) r e3 (h2 (by rw [e1]; exact h3 0 (by simp))) (fun i hi => by
      have := h3 (i + 1) (by simpa using hi)
      rw [show b + 1 + i = b + (i + 1) by omega]
      exact this)
theorem wsw_look {x : Int32} {go : Nat → Prop} {gd : Prop} {pc dt : Nat} {df : Int} (hdf : (pc : Int) + df = (dt : Int)) : ∀ (ps : List (Int × Int)) (ts : List Nat), swL pc ps ts = true → wsw x go ts → wdf x gd ts → (∃ t : Nat, (pc : Int) + Op.lookupswitch.offset ps df x.toInt = (t : Int) ∧ go t) ∨ (gd ∧ (pc : Int) + Op.lookupswitch.offset ps df x.toInt = (dt : Int))
  | [], [], h1, h2, h3 => Or.inr ⟨h3, by simpa [Op.lookupswitch.offset] using hdf⟩
  | [], _ :: _, h1, h2, h3 => by simp [swL] at h1
  | _ :: _, [], h1, h2, h3 => by simp [swL] at h1
  | _ :: _, [v], h1, h2, h3 => by simp [swL] at h1
  | (a, o) :: ps, v :: t :: r, h1, h2, h3 => by
    simp only [swL, Bool.and_eq_true, decide_eq_true_eq] at h1
    obtain ⟨⟨⟨e1, e2⟩, e3⟩, e4⟩ := h1
    simp only [wsw] at h2
    simp only [wdf] at h3
    have hv : (nI v).toInt = a := by rw [nI_toInt (by omega), e1]
    by_cases hx : x = nI v
    · refine Or.inl ⟨t, ?_, h2.1 hx⟩
      rw [Op.lookupswitch.offset_cons, if_pos (by rw [hx, hv])]
      exact e2
    · rw [lv_osw hx hv]
      exact wsw_look hdf ps r e4 h2.2 (h3 hx)
set_option maxHeartbeats 4000000 in
theorem wstep_sound {X : Option (Nat × (Nat → Int32))} {M : MD} {d N1 : Nat} {Q : Option AV → ST → Prop} {k : List EN → LV → List AV → ST → Prop} (hD : okD M) {e : EN} {rest : List EN} (hsuf : (e :: rest) <:+ mC M)
    (hk : ∀ sfx ls st σ, sfx <:+ mC M → k sfx ls st σ → ∃ e1 r1, sfx = e1 :: r1 ∧ Sat X M d N1 Q e1.1 ls st σ) {ls : LV} {st : List AV} {σ : ST} (hw : wstep X M d N1 Q k e rest ls st σ) : Sat X M d N1 Q e.1 ls st σ := by
  obtain ⟨hP, hwf, hchk, hdec, hE⟩ := hD
  have hmem : e ∈ mC M := hsuf.subset List.mem_cons_self
  have hck := List.all_eq_true.mp hchk e hmem
  have hdc := of_decide_eq_true (List.all_eq_true.mp hdec e hmem)
  have hrs : rest <:+ mC M := (List.suffix_cons _ _).trans hsuf
  intro E hX p e0 s m args below meth c R Z N0 hC hRet H locs la hR hS hL hN0 hN1 hst hls
  have seq : ∀ (ls1 : LV) (st1 : List AV) (σ1 : ST) (H1 : Heap) (locs1 : List Loc) (la1 : Array Slot), k rest ls1 st1 σ1 → Rep E H1 σ1 → va_S (eA E) s.heap H1 locs1 → HL E la1 (mY M).2.2.1 ls1 → N0 ≤ σ1.2.2.1 → σ1.2.2.1 ≤ N1 → (∀ a ∈ st1, vok σ1.2.2.1 a) → (∀ i a, lget ls1 i = some a → vok σ1.2.2.1 a) → W p (eL E) e0 R s m args below meth c H1 locs1 (σ1.2.2.1 - N0) (sz σ1.2.2.1 - sz N0) Z (F0 m (e.1 + e.2.2.1) la1 (st1.map (conc E))) := by
    intro ls1 st1 σ1 H1 locs1 la1 g1 g2 g3 g4 g5 g6 g7 g8
    obtain ⟨e1, r1, rfl, hs1⟩ := hk rest ls1 st1 σ1 hrs g1
    rw [← wfc_next hwf hsuf]
    exact hs1 E hX p e0 s m args below meth c R Z N0 hC hRet H1 locs1 la1 g2 g3 g4 g5 g6 g7 g8
  have jump : ∀ (t : Nat) (st1 : List AV), k (jmp (mC M) t) ls st1 σ → (∀ a ∈ st1, vok σ.2.2.1 a) → W p (eL E) e0 R s m args below meth c H locs (σ.2.2.1 - N0) (sz σ.2.2.1 - sz N0) Z (F0 m t la (st1.map (conc E))) := by
    intro t st1 g1 g7
    obtain ⟨e1, r1, he, hs1⟩ := hk (jmp (mC M) t) ls st1 σ (jmp_suf _ _) g1
    have h2 := hs1 E hX p e0 s m args below meth c R Z N0 hC hRet H locs la hR hS hL hN0 hN1 g7 hls
    rw [jmp_head _ _ _ _ he] at h2
    exact h2
  obtain ⟨hx, hb, -⟩ := id hC
  obtain ⟨pc, ins, len, tg, cv⟩ := e
  simp only at hdc seq ⊢
  have heap : ∀ {k1 : List AV → ST → Prop}, k1 = (fun st1 σ1 => k rest ls st1 σ1) → whp X (mP M) (mI M) N1 ins st σ k1 → W p (eL E) e0 R s m args below meth c H locs (σ.2.2.1 - N0) (sz σ.2.2.1 - sz N0) Z (F0 m pc la (st.map (conc E))) := by
    intro k1 hk1 h
    refine whp_sound (tg := tg) (cv := cv) hC hX hP hdc hck h hR hS hN0 hN1 hst (fun st1 σ1 H1 locs1 g1 g2 g3 g4 g5 g6 g7 => seq ls st1 σ1 H1 locs1 la (by rw [hk1] at g1; exact g1) g2 g3 hL g4 g5 g7 (fun i a h => (hls i a h).mono g6 ?_))
    exact g2.2.2
  have call : ∀ {k1 : List AV → ST → Prop}, k1 = (fun st1 σ1 => k rest ls st1 σ1) → wcl (mP M) d N1 ins st σ k1 → W p (eL E) e0 R s m args below meth c H locs (σ.2.2.1 - N0) (sz σ.2.2.1 - sz N0) Z (F0 m pc la (st.map (conc E))) := by
    intro k1 hk1 h
    refine wcl_sound (tg := tg) (cv := cv) hC hP hdc hck h hL.1 hR hS hN0 hN1 hst (fun st1 σ1 H1 locs1 g1 g2 g3 g4 g5 g6 g7 => seq ls st1 σ1 H1 locs1 la (by rw [hk1] at g1; exact g1) g2 g3 hL g4 g5 g7 (fun i a h => (hls i a h).mono g6 ?_))
    exact g2.2.2
  have simp0 : ∀ {ls1 : LV} {st1 : List AV}, sfun ins tg cv ls st = some (ls1, st1) → k rest ls1 st1 σ → W p (eL E) e0 R s m args below meth c H locs (σ.2.2.1 - N0) (sz σ.2.2.1 - sz N0) Z (F0 m pc la (st.map (conc E))) := by
    intro ls1 st1 h1 h2
    obtain ⟨g1, g2⟩ := sfun_ok (n := σ.2.2.1) h1 hst hls
    exact sfun_sound hx hb hdc hck h1 hL (fun la1 hL1 => seq ls1 st1 σ H locs la1 h2 hR hS hL1 hN0 hN1 g1 g2)
  cases ins
  case goto o =>
    simp only [chk, Bool.and_eq_true, decide_eq_true_eq] at hck
    exact lv_goto hx hb (by rw [hdc, hck.2]) hck.1 (jump _ _ hw hst)
  case ifCond cd o =>
    simp only [chk, Bool.and_eq_true, decide_eq_true_eq] at hck
    obtain ⟨h1, rfl⟩ := hck
    simp only [wstep] at hw
    split at hw
    · rename_i x r
      have hvr := vok_tail hst
      cases cd
      · exact lv_if_eq hx hb hdc h1 (fun h => jump _ _ (hw.1 h) hvr) (fun h => seq _ _ _ _ _ _ (hw.2 h) hR hS hL hN0 hN1 hvr hls)
      · exact lv_if_ne hx hb hdc h1 (fun h => jump _ _ (hw.1 h) hvr) (fun h => seq _ _ _ _ _ _ (hw.2 h) hR hS hL hN0 hN1 hvr hls)
      · exact lv_if_lt hx hb hdc h1 (fun h => jump _ _ (hw.1 h) hvr) (fun h => seq _ _ _ _ _ _ (hw.2 h) hR hS hL hN0 hN1 hvr hls)
      · exact lv_if_ge hx hb hdc h1 (fun h => jump _ _ (hw.1 h) hvr) (fun h => seq _ _ _ _ _ _ (hw.2 h) hR hS hL hN0 hN1 hvr hls)
      · exact lv_if_gt hx hb hdc h1 (fun h => jump _ _ (hw.1 h) hvr) (fun h => seq _ _ _ _ _ _ (hw.2 h) hR hS hL hN0 hN1 hvr hls)
      · exact lv_if_le hx hb hdc h1 (fun h => jump _ _ (hw.1 h) hvr) (fun h => seq _ _ _ _ _ _ (hw.2 h) hR hS hL hN0 hN1 hvr hls)
    · exact hw.elim
  case if_icmp cd o =>
    simp only [chk, Bool.and_eq_true, decide_eq_true_eq] at hck
    obtain ⟨h1, rfl⟩ := hck
    simp only [wstep] at hw
    split at hw
    · rename_i y x r
      have hvr := vok_tail (vok_tail hst)
      cases cd
      · exact lv_icmp_eq hx hb hdc h1 (fun h => jump _ _ (hw.1 h) hvr) (fun h => seq _ _ _ _ _ _ (hw.2 h) hR hS hL hN0 hN1 hvr hls)
      · exact lv_icmp_ne hx hb hdc h1 (fun h => jump _ _ (hw.1 h) hvr) (fun h => seq _ _ _ _ _ _ (hw.2 h) hR hS hL hN0 hN1 hvr hls)
      · exact lv_icmp_lt hx hb hdc h1 (fun h => jump _ _ (hw.1 h) hvr) (fun h => seq _ _ _ _ _ _ (hw.2 h) hR hS hL hN0 hN1 hvr hls)
      · exact lv_icmp_ge hx hb hdc h1 (fun h => jump _ _ (hw.1 h) hvr) (fun h => seq _ _ _ _ _ _ (hw.2 h) hR hS hL hN0 hN1 hvr hls)
      · exact lv_icmp_gt hx hb hdc h1 (fun h => jump _ _ (hw.1 h) hvr) (fun h => seq _ _ _ _ _ _ (hw.2 h) hR hS hL hN0 hN1 hvr hls)
      · exact lv_icmp_le hx hb hdc h1 (fun h => jump _ _ (hw.1 h) hvr) (fun h => seq _ _ _ _ _ _ (hw.2 h) hR hS hL hN0 hN1 hvr hls)
    · exact hw.elim
  case tableswitch df lo hi os =>
    simp only [wstep] at hw
    split at hw
    · rename_i x r
      have hvr := vok_tail hst
      split at hw
      · rename_i dt ts
        simp only [chk, Bool.and_eq_true, decide_eq_true_eq] at hck
        obtain ⟨⟨⟨⟨h1, h2⟩, h3⟩, h4⟩, h5⟩ := hck
        subst h2
        by_cases ho : x.toInt < 0 ∨ hi < x.toInt
        · refine lv_tableOut hx hb hdc ho h1 (jump _ _ (wdf_out os.toList 0 ts h5 hw.2 (fun i hi2 hq => ?_)) hvr)
          have hi3 : i < os.size := by simpa using hi2
          rw [Nat.zero_add] at hq
          rw [hq, nI_toInt (by omega)] at ho
          omega
        · have h6 : ¬ x.toInt < 0 := fun h => ho (Or.inl h)
          have h7 : ¬ hi < x.toInt := fun h => ho (Or.inr h)
          have hlt : x.toInt.toNat < os.size := by omega
          have hx2 : x = nI (0 + x.toInt.toNat) := by
            apply Int32.toInt_inj.mp
            rw [Nat.zero_add, nI_toInt (by omega)]
            omega
          obtain ⟨t, g1, g2⟩ := wsw_in os.toList 0 ts h5 hw.1 x.toInt.toNat os[x.toInt.toNat] (by simp [hlt]) hx2
          exact lv_tableIn (off := os[x.toInt.toNat]) hx hb hdc h6 h7 (by rw [Int.sub_zero]; exact Array.getElem?_eq_getElem hlt) g1 (jump _ _ g2 hvr)
      · exact hw.elim
    · exact hw.elim
  case lookupswitch df ps =>
    simp only [wstep] at hw
    split at hw
    · rename_i x r
      have hvr := vok_tail hst
      split at hw
      · rename_i dt ts
        simp only [chk, Bool.and_eq_true] at hck
        obtain ⟨⟨h1, h2⟩, h3⟩ := hck
        rcases wsw_look (of_decide_eq_true h1) ps.toList ts h2 hw.1 hw.2 with ⟨t, g1, g2⟩ | ⟨g1, g2⟩
        · exact lv_lookup hx hb hdc h3 rfl g1 (jump _ _ g2 hvr)
        · exact lv_lookup hx hb hdc h3 rfl g2 (jump _ _ g1 hvr)
      · exact hw.elim
    · exact hw.elim
  case ireturn =>
    simp only [chk, decide_eq_true_eq] at hck
    subst hck
    simp only [wstep] at hw
    split at hw
    · rename_i x
      obtain ⟨h1, h2, h3⟩ := hw
      have := hRet H locs la (some (vi x)) σ pc hR hS h1 h3 (fun a h => by cases h; trivial) h2 hdc
      rw [h1]
      exact this
    · exact hw.elim
  case return_ =>
    simp only [chk, decide_eq_true_eq] at hck
    subst hck
    simp only [wstep] at hw
    split at hw
    · obtain ⟨h2, h1, h3⟩ := hw
      have := hRet H locs la none σ pc hR hS h1 h3 (fun a h => by cases h) h2 hdc
      rw [h1]
      exact this
    · exact hw.elim
  case areturn =>
    simp only [chk, decide_eq_true_eq] at hck
    subst hck
    simp only [wstep] at hw
    split at hw
    · rename_i t o
      obtain ⟨h2, h1, h3⟩ := hw
      have := hRet H locs la (some (vr t o)) σ pc hR hS h1 h3 (fun a h => by cases h; rw [← h1]; exact vok_head hst) h2 hdc
      rw [h1]
      exact this
    · exact hw.elim
  case invokevirtual i => exact call rfl hw
  case invokestatic i => exact call rfl hw
  case invokespecial i => exact call rfl hw
  case getfield i => exact heap rfl hw
  case putfield i => exact heap rfl hw
  case iaload => exact heap rfl hw
  case iastore => exact heap rfl hw
  case baload => exact heap rfl hw
  case bastore => exact heap rfl hw
  case laload => exact heap rfl hw
  case lastore => exact heap rfl hw
  case aaload => exact heap rfl hw
  case aastore => exact heap rfl hw
  case arraylength => exact heap rfl hw
  case new i => exact heap rfl hw
  case newarray i => exact heap rfl hw
  case anewarray i => exact heap rfl hw
  case getstatic i => exact heap rfl hw
  case ldc2_w i => exact heap rfl hw
  case ldc_w i => exact heap rfl hw
  case ldc i => exact heap rfl hw
  case idiv => exact heap rfl hw
  case irem => exact heap rfl hw
  all_goals
    simp only [wstep] at hw
    split at hw
    · rename_i ls1 st1 hsf
      exact simp0 hsf hw
    · exact hw.elim
theorem wpn_sound {X : Option (Nat × (Nat → Int32))} {M : MD} {d N1 : Nat} {Q : Option AV → ST → Prop} (hD : okD M) (cuts : List Nat) : ∀ (f : Nat) (sfx : List EN) (ls : LV) (st : List AV) (σ : ST), sfx <:+ mC M → wpn X M d N1 Q cuts (Sat X M d N1 Q) f sfx ls st σ → ∃ e1 r1, sfx = e1 :: r1 ∧ Sat X M d N1 Q e1.1 ls st σ
  | 0, sfx, ls, st, σ, _, h => by
    cases sfx <;> exact (h : False).elim
  | f + 1, [], ls, st, σ, _, h => (h : False).elim
  | f + 1, e :: rest, ls, st, σ, hs, h => by
    refine ⟨e, rest, rfl, wstep_sound hD hs (fun sfx ls1 st1 σ1 h1 h2 => ?_) h⟩
    cases sfx with
    | nil => exact (h2 : False).elim
    | cons e1 r1 =>
      simp only at h2
      split at h2
      · exact ⟨e1, r1, rfl, h2⟩
      · exact wpn_sound hD cuts f (e1 :: r1) ls1 st1 σ1 h1 h2
theorem Sat.of {X : Option (Nat × (Nat → Int32))} {M : MD} {d N1 : Nat} {Q : Option AV → ST → Prop} (hD : okD M) (cuts : List Nat) (f : Nat) {pc : Nat} {ls : LV} {st : List AV} {σ : ST} (hw : wpn X M d N1 Q cuts (Sat X M d N1 Q) f (jmp (mC M) pc) ls st σ) : Sat X M d N1 Q pc ls st σ := by
  obtain ⟨e1, r1, h1, h2⟩ := wpn_sound hD cuts f _ ls st σ (jmp_suf _ _) hw
  rw [jmp_head _ _ _ _ h1] at h2
  exact h2
theorem padL_len : ∀ (n : Nat) (l : LV), (padL n l).length = n
  | 0, _ => rfl
  | n + 1, [] => by simp [padL, padL_len n []]
  | n + 1, a :: r => by simp [padL, padL_len n r]
theorem padL_get : ∀ (n : Nat) (l : LV) (i : Nat) (v : AV), lget (padL n l) i = some v → lget l i = some v
  | 0, l, i, v, h => by simp [padL, lget] at h
  | n + 1, [], 0, v, h => by simp [padL, lget] at h
  | n + 1, [], i + 1, v, h => by
    have := padL_get n [] i v (by simpa [padL, lget] using h)
    simp [lget] at this
  | n + 1, a :: r, 0, v, h => by simpa [padL, lget] using h
  | n + 1, a :: r, i + 1, v, h => by
    have := padL_get n r i v (by simpa [padL, lget] using h)
    simpa [lget] using this
theorem mkL_args (E : EV) : ∀ (as : List AV) (b i : Nat) (v : AV), lget (mkL as) i = some v → (b + i, conc E v) ∈ lv_args b (as.map (conc E))
  | [], b, i, v, h => by simp [mkL, lget] at h
  | .inl x :: r, b, 0, v, h => by
    simp only [mkL, lget, Option.some.injEq] at h
    subst h
    exact List.mem_cons_self
  | .inl x :: r, b, i + 1, v, h => by
    have := mkL_args E r (b + 1) i v (by simpa [mkL, lget] using h)
    rw [show b + (i + 1) = b + 1 + i by omega]
    exact List.mem_cons_of_mem _ this
  | .inr (.inr q) :: r, b, 0, v, h => by
    simp only [mkL, lget, Option.some.injEq] at h
    subst h
    exact List.mem_cons_self
  | .inr (.inr q) :: r, b, i + 1, v, h => by
    have := mkL_args E r (b + 1) i v (by simpa [mkL, lget] using h)
    rw [show b + (i + 1) = b + 1 + i by omega]
    refine List.mem_cons_of_mem _ ?_
    rw [if_neg (by rw [conc_cat]; simp [avc])]
    exact this
  | .inr (.inl x) :: r, b, 0, v, h => by
    simp only [mkL, lget, Option.some.injEq] at h
    subst h
    exact List.mem_cons_self
  | .inr (.inl x) :: r, b, 1, v, h => by simp [mkL, lget] at h
  | .inr (.inl x) :: r, b, i + 2, v, h => by
    have := mkL_args E r (b + 2) i v (by simpa [mkL, lget] using h)
    rw [show b + (i + 2) = b + 2 + i by omega]
    exact List.mem_cons_of_mem _ this
theorem mkL_len (E : EV) : ∀ as : List AV, (lg_sl (as.map (conc E))).length = (mkL as).length
  | [] => rfl
  | .inl x :: r => by
    have := mkL_len E r
    simp only [List.map_cons, lg_sl, List.flatMap_cons, List.length_append, mkL, List.length_cons] at this ⊢
    rw [← this, conc_cat]
    simp [avc, lg_sl]
    omega
  | .inr (.inr q) :: r => by
    have := mkL_len E r
    simp only [List.map_cons, lg_sl, List.flatMap_cons, List.length_append, mkL, List.length_cons] at this ⊢
    rw [← this, conc_cat]
    simp [avc, lg_sl]
    omega
  | .inr (.inl x) :: r => by
    have := mkL_len E r
    simp only [List.map_cons, lg_sl, List.flatMap_cons, List.length_append, mkL, List.length_cons] at this ⊢
    rw [← this, conc_cat]
    simp [avc, lg_sl]
    omega
theorem mkL_vok {n : Nat} : ∀ (as : List AV), (∀ a ∈ as, vok n a) → ∀ i a, lget (mkL as) i = some a → vok n a := by
  intro as
  induction as with
  | nil => intro _ i a h; simp [mkL, lget] at h
  | cons b r ih =>
    intro h i a hg
    have ih := ih (vok_tail h)
    rcases b with x | x | q
    · cases i with
      | zero => simp only [mkL, lget, Option.some.injEq] at hg; subst hg; trivial
      | succ i => exact ih i a (by simpa [mkL, lget] using hg)
    · match i, hg with
      | 0, hg => simp only [mkL, lget, Option.some.injEq] at hg; subst hg; trivial
      | 1, hg => simp [mkL, lget] at hg
      | i + 2, hg => exact ih i a (by simpa [mkL, lget] using hg)
    · cases i with
      | zero => simp only [mkL, lget, Option.some.injEq] at hg; subst hg; exact vok_head h
      | succ i => exact ih i a (by simpa [mkL, lget] using hg)
theorem HL_entry {E : EV} {as : List AV} {n : Nat} (h : (mkL as).length ≤ n) : HL E ((lg_sl (as.map (conc E)) ++ List.replicate (n - (lg_sl (as.map (conc E))).length) Slot.unset).toArray) n (padL n (mkL as)) := by
  have hl := lv_entry (as.map (conc E)) (n := n) (by rw [mkL_len]; exact h)
  refine ⟨hl.1, hl.2.1, padL_len _ _, fun i v hv => ?_⟩
  have := mkL_args E as 0 i v (padL_get _ _ _ _ hv)
  rw [Nat.zero_add] at this
  exact hl.2.2 (i, conc E v) this
set_option maxHeartbeats 4000000 in
theorem Tri.of {M : MD} {d N1 : Nat} {Q : Option AV → ST → Prop} {as : List AV} {σ : ST} (hD : okD M) (hn : σ.2.2.1 ≤ N1 ∧ N1 ≤ 117) (hl : (mkL as).length ≤ (mY M).2.2.1) (hs : Sat none M d N1 Q 0 (padL (mY M).2.2.1 (mkL as)) [] σ) : Tri d (mY M) N1 as σ Q := by
  refine ⟨hn.1, hn.2, fun E => ?_⟩
  obtain ⟨-, -, -, -, hE⟩ := hD
  simp only [okE, Bool.and_eq_true, decide_eq_true_eq] at hE
  obtain ⟨⟨hE1, hE2⟩, hE3⟩ := hE
  refine Met.ofW (cc := (mY M).2.1) (maxL := (mY M).2.2.1) (ret := (mY M).2.2.2) hE1 rfl ?_
  intro p e s m args below meth c s₁ B hml hv
  obtain ⟨rfl, hKK, hR, hok⟩ := hv
  have hx := B.exec
  have hb := B.bytes
  have hr := B.returns
  have hts := atoms_spec (ws := ywd (mY M) :: gw) B.pre
  have hown : s.vm.findClass (mP M).1 = some m.cls := by rw [hE2]; exact findClass_of_methodNamed B.named
  have hlocks := B.notSynchronized
  have hC : Ctx E M d σ.2.2.1 N1 (headSpec (ywd (mY M) :: gw) (rmd d (N1 - σ.2.2.1) (sz N1 - sz σ.2.2.1))).room p s m meth c (as.map (conc E)).toArray := by
    refine ⟨hx, hb, hml, hown, fun w h => hts w (List.mem_cons_of_mem _ h), fun h => ?_, hKK, hn.1, hn.2, Nat.le_refl _, Nat.le_refl _, Nat.le_refl _, Nat.le_refl _⟩
    rw [(name_of_methodNamed B.named B.method).1]
    rw [h] at hE3
    simpa using hE3
  have hRet : RetOk E M σ.2.2.1 N1 Q (headSpec (ywd (mY M) :: gw) (rmd d (N1 - σ.2.2.1) (sz N1 - sz σ.2.2.1))).room (MQ below (QcA E N1 Q) (as.map (conc E)).toArray s (N1 - σ.2.2.1) (sz N1 - sz σ.2.2.1) (eA E)) p e s m (as.map (conc E)).toArray below meth c := by
    intro H locs la v σ1 pc g1 g2 g3 g4 g5 g6 g7
    rcases v with _ | x | x | q
    · exact W.vret hx hb (hr.trans g6) (fun t ht hW => ⟨⟨none, σ1, rfl, g4, by rw [ht]; exact g1, g3, g5⟩, g2.F ht⟩) g2.2.2 g7
    · have hQ : ∀ t : State, t.heap = H → s.WarmedH t.vm → QcA E N1 Q (as.map (conc E)).toArray s (.returned (some (.int x))) t := fun t ht hW => ⟨⟨some (vi x), σ1, rfl, g4, by rw [ht]; exact g1, g3, g5⟩, g2.F ht⟩
      unfold rkOk rtOk at g6
      simp only at g6
      split at g6
      · rename_i hq
        exact W.iret hx hb (hr.trans hq) hQ g2.2.2 g7
      · rename_i hq
        exact W.zret hx hb (hr.trans hq) (by rcases g6 with rfl | rfl <;> rfl) hQ g2.2.2 g7
      · rename_i hq
        exact W.zret hx hb (hr.trans hq) g6 hQ g2.2.2 g7
      · rename_i hq
        exact W.zret hx hb (hr.trans hq) g6 hQ g2.2.2 g7
      · exact g6.elim
    · exact (g6 : False).elim
    · have hq : ∃ rt, (mY M).2.2.2 = some rt ∧ ((∃ n, rt = .object n) ∨ ∃ t, rt = .array t) := by
        have g6 : isRT (mY M).2.2.2 = true := g6
        unfold isRT at g6
        split at g6
        · exact ⟨_, by assumption, Or.inl ⟨_, rfl⟩⟩
        · exact ⟨_, by assumption, Or.inr ⟨_, rfl⟩⟩
        · cases g6
      obtain ⟨rt, h1, h2⟩ := hq
      refine W.aret (v := conc E (.inr (.inr q))) hx hb (hr.trans h1) h2 ?_ (fun t ht hW => ⟨⟨some (.inr (.inr q)), σ1, rfl, g4, by rw [ht]; exact g1, g3, g5⟩, g2.F ht⟩) g2.2.2 g7
      rcases q with _ | ⟨t, o⟩
      · exact Or.inl rfl
      · exact Or.inr ⟨_, rfl⟩
  have hfin := hs E trivial p e s m (as.map (conc E)).toArray below meth c _ _ σ.2.2.1 hC hRet s.heap [] _ hR va_S.rf (HL_entry hl) (Nat.le_refl _) hn.1 (fun a h => by cases h) (fun i a h => mkL_vok as hok i a (padL_get _ _ _ _ h))
  rw [Nat.sub_self, Nat.sub_self] at hfin
  rw [lg_entry_eq]
  exact hfin
