/-! SOUNDNESS, 1: locals and operand stack -/
def toL (E : EV) : Nat → LV → List (Nat × Value)
  | _, [] => []
  | i, none :: r => toL E (i + 1) r
  | i, some v :: r => (i, conc E v) :: toL E (i + 1) r
theorem mem_toL {E : EV} : ∀ (ls : LV) (b : Nat) (q : Nat × Value), q ∈ toL E b ls → ∃ i v, lget ls i = some v ∧ q = (b + i, conc E v)
  | [], b, q, h => by simp [toL] at h
  | none :: r, b, q, h => by
    obtain ⟨i, v, h1, h2⟩ := mem_toL r (b + 1) q h
    exact ⟨i + 1, v, h1, by rw [h2]; congr 1; omega⟩
  | some w :: r, b, q, h => by
    rcases List.mem_cons.mp h with h | h
    · exact ⟨0, w, rfl, h⟩
    · obtain ⟨i, v, h1, h2⟩ := mem_toL r (b + 1) q h
      exact ⟨i + 1, v, h1, by rw [h2]; congr 1; omega⟩
theorem toL_mem {E : EV} : ∀ (ls : LV) (b i : Nat) (v : AV), lget ls i = some v → (b + i, conc E v) ∈ toL E b ls
  | [], b, i, v, h => by simp [lget] at h
  | none :: r, b, 0, v, h => by simp [lget] at h
  | some w :: r, b, 0, v, h => by
    simp only [lget, Option.some.injEq] at h
    subst h
    exact List.mem_cons_self
  | none :: r, b, i + 1, v, h => by
    have := toL_mem (E := E) r (b + 1) i v h
    rw [show b + (i + 1) = b + 1 + i by omega]
    exact this
  | some w :: r, b, i + 1, v, h => by
    have := toL_mem (E := E) r (b + 1) i v h
    rw [show b + (i + 1) = b + 1 + i by omega]
    exact List.mem_cons_of_mem _ this
theorem HL.has {E : EV} {la : Array Slot} {nL : Nat} {ls : LV} (h : HL E la nL ls) : lv_has la nL (toL E 0 ls) := by
  refine ⟨h.1, h.2.1, fun q hq => ?_⟩
  obtain ⟨i, v, h1, rfl⟩ := mem_toL ls 0 q hq
  simpa using h.2.2.2 i v h1
theorem lset_len : ∀ (ls : LV) (i : Nat) (v : Option AV), (lset ls i v).length = ls.length
  | [], _, _ => rfl
  | _ :: _, 0, _ => rfl
  | _ :: l, i + 1, v => by simp [lset, lset_len l i v]
theorem lget_lset : ∀ (ls : LV) (i j : Nat) (v : Option AV), i < ls.length → lget (lset ls i v) j = if j = i then v else lget ls j
  | [], i, j, v, h => by simp at h
  | a :: l, 0, 0, v, h => by simp [lset, lget]
  | a :: l, 0, j + 1, v, h => by simp [lset, lget]
  | a :: l, i + 1, 0, v, h => by simp [lset, lget]
  | a :: l, i + 1, j + 1, v, h => by
    have := lget_lset l i j v (by simpa using h)
    simp only [lset, lget, this]
    by_cases e : j = i <;> simp [e]
theorem lget_lt : ∀ (ls : LV) (i : Nat) (v : AV), lget ls i = some v → i < ls.length
  | [], i, v, h => by simp [lget] at h
  | _ :: _, 0, _, _ => by simp
  | _ :: l, i + 1, v, h => by simpa using lget_lt l i v h
theorem conc_cat (E : EV) (v : AV) : (conc E v).category = avc v := by
  rcases v with x | x | (_ | ⟨t, k⟩) <;> rfl
theorem HL.set1 {E : EV} {la : Array Slot} {nL : Nat} {ls : LV} {i : Nat} {v : AV} (hl : ls.length = nL) (hp : plong ls i = false) (hi : i < ls.length)
    (h : lv_has la nL ((i, conc E v) :: (toL E 0 ls).filter (fun q => !(q.1 == i) && !(q.1 + 1 == i && q.2.category == 2)))) : HL E la nL (lset ls i (some v)) := by
  refine ⟨h.1, h.2.1, by rw [lset_len]; exact hl, fun j w hw => ?_⟩
  rw [lget_lset ls i j _ hi] at hw
  by_cases e : j = i
  · rw [if_pos e] at hw
    cases hw
    subst e
    exact h.2.2 (j, conc E v) List.mem_cons_self
  · rw [if_neg e] at hw
    have hm := toL_mem (E := E) ls 0 j w hw
    rw [Nat.zero_add] at hm
    refine h.2.2 (j, conc E w) (List.mem_cons_of_mem _ (List.mem_filter.mpr ⟨hm, ?_⟩))
    have h2 : ¬ (j + 1 = i ∧ (conc E w).category = 2) := by
      rintro ⟨h3, h4⟩
      subst h3
      rw [conc_cat] at h4
      rcases w with x | x | x
      · simp [avc] at h4
      · simp [plong, hw] at hp
      · simp [avc] at h4
    simp [e]
    exact Decidable.not_and_iff_not_or_not.mp h2
theorem HL.set2 {E : EV} {la : Array Slot} {nL : Nat} {ls : LV} {i : Nat} {x : Int64} (hl : ls.length = nL) (hp : plong ls i = false) (hi : i + 1 < ls.length)
    (h : lv_has la nL ((i, conc E (vl x)) :: (toL E 0 ls).filter (fun q => !(q.1 == i) && (!(q.1 == i + 1) && !(q.1 + 1 == i && q.2.category == 2))))) : HL E la nL (lset (lset ls i (some (vl x))) (i + 1) none) := by
  refine ⟨h.1, h.2.1, by rw [lset_len, lset_len]; exact hl, fun j w hw => ?_⟩
  rw [lget_lset _ (i + 1) j _ (by rw [lset_len]; exact hi), lget_lset ls i j _ (by omega)] at hw
  by_cases e1 : j = i + 1
  · rw [if_pos e1] at hw
    cases hw
  rw [if_neg e1] at hw
  by_cases e : j = i
  · rw [if_pos e] at hw
    cases hw
    subst e
    exact h.2.2 (j, conc E (vl x)) List.mem_cons_self
  · rw [if_neg e] at hw
    have hm := toL_mem (E := E) ls 0 j w hw
    rw [Nat.zero_add] at hm
    refine h.2.2 (j, conc E w) (List.mem_cons_of_mem _ (List.mem_filter.mpr ⟨hm, ?_⟩))
    have h2 : ¬ (j + 1 = i ∧ (conc E w).category = 2) := by
      rintro ⟨h3, h4⟩
      subst h3
      rw [conc_cat] at h4
      rcases w with x | x | x
      · simp [avc] at h4
      · simp [plong, hw] at hp
      · simp [avc] at h4
    simp [e, e1]
    exact Decidable.not_and_iff_not_or_not.mp h2
theorem sst_some {ls : LV} {i : Nat} {v : AV} {r : List AV} {q : LV × List AV} (h : sst ls i v r = some q) : plong ls i = false ∧ i < ls.length ∧ q = (lset ls i (some v), r) := by
  unfold sst at h
  cases hp : plong ls i with
  | true => simp [hp] at h
  | false =>
    simp only [hp] at h
    cases hb : Nat.ble ls.length i with
    | true => simp [hb] at h
    | false =>
      simp only [hb, Option.some.injEq] at h
      refine ⟨rfl, ?_, h.symm⟩
      rw [← Bool.not_eq_true, Nat.ble_eq] at hb
      omega
section SOUND1
variable {E : EV} {p : Program} {e : Env} {R : Room} {s : State} {m : MethodId} {args : Array Value} {below : List Frame} {meth : Method} {c : Code} {H : Heap} {locs : List Loc} {cells slots : Nat} {Z : State → Prop} {cc : ByteArray} {pc len nL : Nat} {la : Array Slot} {tg : List Nat} {cv : Int32} {ls ls1 : LV} {st st1 : List AV} {ins : Instr}
set_option maxHeartbeats 4000000 in
set_option maxRecDepth 10000 in
theorem sfun_sound (hx : p.tables.exec = Jvm.exec) (hb : c.code = cc) (hdg : decode cc pc = .ok (ins, len)) (hk : chk (pc, ins, len, tg, cv) = true) (hs : sfun ins tg cv ls st = some (ls1, st1)) (hL : HL E la nL ls)
    (kk : ∀ la1, HL E la1 nL ls1 → W p (eL E) e R s m args below meth c H locs cells slots Z (F0 m (pc + len) la1 (st1.map (conc E)))) : W p (eL E) e R s m args below meth c H locs cells slots Z (F0 m pc la (st.map (conc E))) := by
  have hln := hL.2.2.1
  cases ins
  case iconst n =>
    simp only [chk, Bool.and_eq_true, decide_eq_true_eq] at hk
    obtain ⟨h1, rfl⟩ := hk
    cases hs
    exact lv_iconst hx hb hdg h1 (kk la hL)
  case bipush n =>
    simp only [chk, Bool.and_eq_true, decide_eq_true_eq] at hk
    obtain ⟨h1, rfl⟩ := hk
    cases hs
    exact lv_bipush hx hb hdg h1 (kk la hL)
  case sipush n =>
    simp only [chk, Bool.and_eq_true, decide_eq_true_eq] at hk
    obtain ⟨h1, rfl⟩ := hk
    cases hs
    exact lv_sipush hx hb hdg h1 (kk la hL)
  case lconst n =>
    simp only [chk, Bool.and_eq_true, decide_eq_true_eq] at hk
    obtain ⟨h1, rfl⟩ := hk
    cases hs
    exact lv_lconst hx hb hdg (by rw [h1]; rfl) (kk la hL)
  case iload_n i =>
    simp only [chk, Bool.and_eq_true, decide_eq_true_eq] at hk
    obtain ⟨h1, rfl⟩ := hk
    simp only [sfun] at hs
    split at hs
    · rename_i hg
      cases hs
      have hv := hL.2.2.2 _ _ hg
      exact lv_iload_n hx hb hdg h1 hv (kk la hL)
    · cases hs
  case iload i =>
    simp only [chk, Bool.and_eq_true, decide_eq_true_eq] at hk
    obtain ⟨h1, rfl⟩ := hk
    simp only [sfun] at hs
    split at hs
    · rename_i hg
      cases hs
      have hv := hL.2.2.2 _ _ hg
      exact lv_iload hx hb hdg (by rw [h1]; exact hv) (kk la hL)
    · cases hs
  case lload_n i =>
    simp only [chk, Bool.and_eq_true, decide_eq_true_eq] at hk
    obtain ⟨h1, rfl⟩ := hk
    simp only [sfun] at hs
    split at hs
    · rename_i hg
      cases hs
      have hv := hL.2.2.2 _ _ hg
      exact lv_lload_n hx hb hdg h1 hv (kk la hL)
    · cases hs
  case aload_n i =>
    simp only [chk, Bool.and_eq_true, decide_eq_true_eq] at hk
    obtain ⟨h1, rfl⟩ := hk
    simp only [sfun] at hs
    split at hs
    · rename_i hg
      cases hs
      have hv := hL.2.2.2 _ _ hg
      exact lv_aload_n hx hb hdg h1 hv (kk la hL)
    · cases hs
  case aload i =>
    simp only [chk, Bool.and_eq_true, decide_eq_true_eq] at hk
    obtain ⟨h1, rfl⟩ := hk
    simp only [sfun] at hs
    split at hs
    · rename_i hg
      cases hs
      have hv := hL.2.2.2 _ _ hg
      exact lv_aload hx hb hdg (by rw [h1]; exact hv) (kk la hL)
    · cases hs
  case istore_n i =>
    simp only [chk, Bool.and_eq_true, decide_eq_true_eq] at hk
    obtain ⟨h1, rfl⟩ := hk
    simp only [sfun] at hs
    split at hs
    · obtain ⟨g1, g2, g3⟩ := sst_some hs
      cases g3
      exact lv_istore_n hx hb hdg h1 hL.has (by omega) rfl (fun la1 h => kk la1 (HL.set1 hln g1 g2 h))
    · cases hs
  case astore_n i =>
    simp only [chk, Bool.and_eq_true, decide_eq_true_eq] at hk
    obtain ⟨h1, rfl⟩ := hk
    simp only [sfun] at hs
    split at hs
    · obtain ⟨g1, g2, g3⟩ := sst_some hs
      cases g3
      exact lv_astore_n hx hb hdg h1 hL.has (by omega) rfl (fun la1 h => kk la1 (HL.set1 hln g1 g2 h))
    · cases hs
  case istore i =>
    simp only [chk, Bool.and_eq_true, decide_eq_true_eq] at hk
    obtain ⟨h1, rfl⟩ := hk
    simp only [sfun] at hs
    split at hs
    · obtain ⟨g1, g2, g3⟩ := sst_some hs
      cases g3
      exact lv_istore hx hb hdg  hL.has (by rw [h1]; omega) rfl (fun la1 h => kk la1 (HL.set1 hln g1 g2 (by rw [h1] at h; exact h)))
    · cases hs
  case lstore_n i =>
    simp only [chk, Bool.and_eq_true, decide_eq_true_eq] at hk
    obtain ⟨h1, rfl⟩ := hk
    simp only [sfun] at hs
    split at hs
    · split at hs
      · cases hs
      · rename_i hp
        split at hs
        · cases hs
        · rename_i hb2
          cases hs
          have g2 : h0 tg + 1 < ls.length := by
            rw [← Bool.not_eq_true, Nat.ble_eq] at hb2
            omega
          exact lv_lstore_n hx hb hdg h1 hL.has (by omega) rfl (fun la1 h => kk la1 (HL.set2 hln hp g2 h))
    · cases hs
  case iinc i n =>
    simp only [chk, Bool.and_eq_true, decide_eq_true_eq] at hk
    obtain ⟨⟨h1, h2⟩, rfl⟩ := hk
    subst h1
    simp only [sfun] at hs
    split at hs
    · rename_i x hg
      obtain ⟨g1, g2, g3⟩ := sst_some hs
      cases g3
      obtain ⟨k0, hk0⟩ := List.getElem?_of_mem (toL_mem (E := E) ls 0 _ _ hg)
      rw [Nat.zero_add] at hk0
      exact lv_iinc (k := k0) (x := x) (v := x + cv) hx hb hdg hL.has hk0 (by rw [h2]) (by omega) rfl (fun la1 h => kk la1 (HL.set1 hln g1 g2 h))
    · cases hs
  case iadd =>
    simp only [chk, decide_eq_true_eq] at hk
    subst hk
    simp only [sfun] at hs
    split at hs
    · cases hs
      exact lv_iadd hx hb hdg (kk la hL)
    · cases hs
  case isub =>
    simp only [chk, decide_eq_true_eq] at hk
    subst hk
    simp only [sfun] at hs
    split at hs
    · cases hs
      exact lv_isub hx hb hdg (kk la hL)
    · cases hs
  case imul =>
    simp only [chk, decide_eq_true_eq] at hk
    subst hk
    simp only [sfun] at hs
    split at hs
    · cases hs
      exact lv_imul hx hb hdg (kk la hL)
    · cases hs
  case iand =>
    simp only [chk, decide_eq_true_eq] at hk
    subst hk
    simp only [sfun] at hs
    split at hs
    · cases hs
      exact lv_iand hx hb hdg (kk la hL)
    · cases hs
  case ior =>
    simp only [chk, decide_eq_true_eq] at hk
    subst hk
    simp only [sfun] at hs
    split at hs
    · cases hs
      exact lv_ior hx hb hdg (kk la hL)
    · cases hs
  case ixor =>
    simp only [chk, decide_eq_true_eq] at hk
    subst hk
    simp only [sfun] at hs
    split at hs
    · cases hs
      exact lv_ixor hx hb hdg (kk la hL)
    · cases hs
  case ishl =>
    simp only [chk, decide_eq_true_eq] at hk
    subst hk
    simp only [sfun] at hs
    split at hs
    · cases hs
      exact lv_ishl hx hb hdg (kk la hL)
    · cases hs
  case ishr =>
    simp only [chk, decide_eq_true_eq] at hk
    subst hk
    simp only [sfun] at hs
    split at hs
    · cases hs
      exact lv_ishr hx hb hdg (kk la hL)
    · cases hs
  case land =>
    simp only [chk, decide_eq_true_eq] at hk
    subst hk
    simp only [sfun] at hs
    split at hs
    · cases hs
      exact lv_land hx hb hdg (kk la hL)
    · cases hs
  case lor =>
    simp only [chk, decide_eq_true_eq] at hk
    subst hk
    simp only [sfun] at hs
    split at hs
    · cases hs
      exact lv_lor hx hb hdg (kk la hL)
    · cases hs
  case iushr =>
    simp only [chk, decide_eq_true_eq] at hk
    subst hk
    simp only [sfun] at hs
    split at hs
    · cases hs
      exact lv_iushr hx hb hdg rfl (kk la hL)
    · cases hs
  case lshl =>
    simp only [chk, decide_eq_true_eq] at hk
    subst hk
    simp only [sfun] at hs
    split at hs
    · cases hs
      exact lv_lshl hx hb hdg rfl (kk la hL)
    · cases hs
  case lshr =>
    simp only [chk, decide_eq_true_eq] at hk
    subst hk
    simp only [sfun] at hs
    split at hs
    · cases hs
      exact lv_lshr hx hb hdg rfl (kk la hL)
    · cases hs
  case i2l =>
    simp only [chk, decide_eq_true_eq] at hk
    subst hk
    simp only [sfun] at hs
    split at hs
    · cases hs
      exact lv_i2l hx hb hdg rfl (kk la hL)
    · cases hs
  case l2i =>
    simp only [chk, decide_eq_true_eq] at hk
    subst hk
    simp only [sfun] at hs
    split at hs
    · cases hs
      exact lv_l2i hx hb hdg rfl (kk la hL)
    · cases hs
  case i2c =>
    simp only [chk, decide_eq_true_eq] at hk
    subst hk
    simp only [sfun] at hs
    split at hs
    · cases hs
      exact lv_i2c hx hb hdg rfl (kk la hL)
    · cases hs
  case dup =>
    simp only [chk, decide_eq_true_eq] at hk
    subst hk
    simp only [sfun] at hs
    split at hs
    · cases hs
      exact lv_dup hx hb hdg rfl (kk la hL)
    · rename_i q r
      cases hs
      exact lv_dup (va := conc E (.inr (.inr q))) hx hb hdg (by rw [conc_cat]; rfl) (kk la hL)
    · cases hs
  case pop =>
    simp only [chk, decide_eq_true_eq] at hk
    subst hk
    simp only [sfun] at hs
    split at hs
    · cases hs
      exact lv_pop hx hb hdg rfl (kk la hL)
    · rename_i q r
      cases hs
      exact lv_pop (va := conc E (.inr (.inr q))) hx hb hdg (by rw [conc_cat]; rfl) (kk la hL)
    · cases hs
  case dup2 =>
    simp only [chk, decide_eq_true_eq] at hk
    subst hk
    simp only [sfun] at hs
    split at hs
    · cases hs
      exact lv_dup2_11 hx hb hdg rfl rfl (kk la hL)
    · rename_i x q r
      cases hs
      exact lv_dup2_11 (va := .int x) (vb := conc E (.inr (.inr q))) hx hb hdg rfl (by rw [conc_cat]; rfl) (kk la hL)
    · cases hs
  all_goals (simp only [sfun] at hs; cases hs)
set_option maxHeartbeats 4000000 in
theorem sfun_ok {n : Nat} (hs : sfun ins tg cv ls st = some (ls1, st1)) (h1 : ∀ a ∈ st, vok n a) (h2 : ∀ i a, lget ls i = some a → vok n a) : (∀ a ∈ st1, vok n a) ∧ ∀ i a, lget ls1 i = some a → vok n a := by
  have hset : ∀ (l : LV) (i : Nat) (v : Option AV), (∀ i a, lget l i = some a → vok n a) → (∀ a, v = some a → vok n a) → ∀ j a, lget (lset l i v) j = some a → vok n a := by
    intro l i v g1 g2 j a hj
    by_cases hi : i < l.length
    · rw [lget_lset l i j v hi] at hj
      by_cases e : j = i
      · rw [if_pos e] at hj; exact g2 a hj
      · rw [if_neg e] at hj; exact g1 j a hj
    · have : ∀ (l : LV) (i : Nat), ¬ i < l.length → lset l i v = l := by
        intro l
        induction l with
        | nil => intro i _; rfl
        | cons b l ih =>
          intro i hi
          cases i with
          | zero => simp at hi
          | succ i => simp only [lset]; rw [ih i (by simpa using hi)]
      rw [this l i hi] at hj
      exact g1 j a hj
  have hcons : ∀ (a : AV) (r : List AV), vok n a → (∀ b ∈ r, vok n b) → ∀ b ∈ a :: r, vok n b := fun a r g1 g2 b hb => (List.mem_cons.mp hb).elim (fun h => h ▸ g1) (g2 b)
  cases ins
  case iconst _ =>
    cases hs
    exact ⟨hcons _ _ trivial h1, h2⟩
  case bipush _ =>
    cases hs
    exact ⟨hcons _ _ trivial h1, h2⟩
  case sipush _ =>
    cases hs
    exact ⟨hcons _ _ trivial h1, h2⟩
  case lconst _ =>
    cases hs
    exact ⟨hcons _ _ trivial h1, h2⟩
  case iload_n _ =>
    simp only [sfun] at hs
    split at hs
    · cases hs; exact ⟨hcons _ _ trivial h1, h2⟩
    · cases hs
  case iload _ =>
    simp only [sfun] at hs
    split at hs
    · cases hs; exact ⟨hcons _ _ trivial h1, h2⟩
    · cases hs
  case lload_n _ =>
    simp only [sfun] at hs
    split at hs
    · cases hs; exact ⟨hcons _ _ trivial h1, h2⟩
    · cases hs
  case aload_n _ =>
    simp only [sfun] at hs
    split at hs
    · rename_i hg
      cases hs; exact ⟨hcons _ _ (h2 _ _ hg) h1, h2⟩
    · cases hs
  case aload _ =>
    simp only [sfun] at hs
    split at hs
    · rename_i hg
      cases hs; exact ⟨hcons _ _ (h2 _ _ hg) h1, h2⟩
    · cases hs
  case istore_n _ =>
    simp only [sfun] at hs
    split at hs
    · obtain ⟨-, -, g3⟩ := sst_some hs
      cases g3
      exact ⟨fun a h => h1 a (List.mem_cons_of_mem _ h), hset _ _ _ h2 (fun a h => by cases h; first | exact trivial | exact h1 _ List.mem_cons_self)⟩
    · cases hs
  case istore _ =>
    simp only [sfun] at hs
    split at hs
    · obtain ⟨-, -, g3⟩ := sst_some hs
      cases g3
      exact ⟨fun a h => h1 a (List.mem_cons_of_mem _ h), hset _ _ _ h2 (fun a h => by cases h; first | exact trivial | exact h1 _ List.mem_cons_self)⟩
    · cases hs
  case astore_n _ =>
    simp only [sfun] at hs
    split at hs
    · obtain ⟨-, -, g3⟩ := sst_some hs
      cases g3
      exact ⟨fun a h => h1 a (List.mem_cons_of_mem _ h), hset _ _ _ h2 (fun a h => by cases h; first | exact trivial | exact h1 _ List.mem_cons_self)⟩
    · cases hs
  case lstore_n _ =>
    simp only [sfun] at hs
    split at hs
    · split at hs
      · cases hs
      · split at hs
        · cases hs
        · cases hs
          exact ⟨fun a h => h1 a (List.mem_cons_of_mem _ h), hset _ _ _ (hset _ _ _ h2 (fun a h => by cases h; trivial)) (fun a h => by cases h)⟩
    · cases hs
  case iinc _ _ =>
    simp only [sfun] at hs
    split at hs
    · obtain ⟨-, -, g3⟩ := sst_some hs
      cases g3
      exact ⟨h1, hset _ _ _ h2 (fun a h => by cases h; trivial)⟩
    · cases hs
  case iadd =>
    simp only [sfun] at hs
    split at hs
    · cases hs; exact ⟨hcons _ _ trivial (fun a h => h1 a (List.mem_cons_of_mem _ (List.mem_cons_of_mem _ h))), h2⟩
    · cases hs
  case isub =>
    simp only [sfun] at hs
    split at hs
    · cases hs; exact ⟨hcons _ _ trivial (fun a h => h1 a (List.mem_cons_of_mem _ (List.mem_cons_of_mem _ h))), h2⟩
    · cases hs
  case imul =>
    simp only [sfun] at hs
    split at hs
    · cases hs; exact ⟨hcons _ _ trivial (fun a h => h1 a (List.mem_cons_of_mem _ (List.mem_cons_of_mem _ h))), h2⟩
    · cases hs
  case iand =>
    simp only [sfun] at hs
    split at hs
    · cases hs; exact ⟨hcons _ _ trivial (fun a h => h1 a (List.mem_cons_of_mem _ (List.mem_cons_of_mem _ h))), h2⟩
    · cases hs
  case ior =>
    simp only [sfun] at hs
    split at hs
    · cases hs; exact ⟨hcons _ _ trivial (fun a h => h1 a (List.mem_cons_of_mem _ (List.mem_cons_of_mem _ h))), h2⟩
    · cases hs
  case ixor =>
    simp only [sfun] at hs
    split at hs
    · cases hs; exact ⟨hcons _ _ trivial (fun a h => h1 a (List.mem_cons_of_mem _ (List.mem_cons_of_mem _ h))), h2⟩
    · cases hs
  case ishl =>
    simp only [sfun] at hs
    split at hs
    · cases hs; exact ⟨hcons _ _ trivial (fun a h => h1 a (List.mem_cons_of_mem _ (List.mem_cons_of_mem _ h))), h2⟩
    · cases hs
  case ishr =>
    simp only [sfun] at hs
    split at hs
    · cases hs; exact ⟨hcons _ _ trivial (fun a h => h1 a (List.mem_cons_of_mem _ (List.mem_cons_of_mem _ h))), h2⟩
    · cases hs
  case land =>
    simp only [sfun] at hs
    split at hs
    · cases hs; exact ⟨hcons _ _ trivial (fun a h => h1 a (List.mem_cons_of_mem _ (List.mem_cons_of_mem _ h))), h2⟩
    · cases hs
  case lor =>
    simp only [sfun] at hs
    split at hs
    · cases hs; exact ⟨hcons _ _ trivial (fun a h => h1 a (List.mem_cons_of_mem _ (List.mem_cons_of_mem _ h))), h2⟩
    · cases hs
  case iushr =>
    simp only [sfun] at hs
    split at hs
    · cases hs; exact ⟨hcons _ _ trivial (fun a h => h1 a (List.mem_cons_of_mem _ (List.mem_cons_of_mem _ h))), h2⟩
    · cases hs
  case lshl =>
    simp only [sfun] at hs
    split at hs
    · cases hs; exact ⟨hcons _ _ trivial (fun a h => h1 a (List.mem_cons_of_mem _ (List.mem_cons_of_mem _ h))), h2⟩
    · cases hs
  case lshr =>
    simp only [sfun] at hs
    split at hs
    · cases hs; exact ⟨hcons _ _ trivial (fun a h => h1 a (List.mem_cons_of_mem _ (List.mem_cons_of_mem _ h))), h2⟩
    · cases hs
  case i2l =>
    simp only [sfun] at hs
    split at hs
    · cases hs; exact ⟨hcons _ _ trivial (fun a h => h1 a (List.mem_cons_of_mem _ h)), h2⟩
    · cases hs
  case l2i =>
    simp only [sfun] at hs
    split at hs
    · cases hs; exact ⟨hcons _ _ trivial (fun a h => h1 a (List.mem_cons_of_mem _ h)), h2⟩
    · cases hs
  case i2c =>
    simp only [sfun] at hs
    split at hs
    · cases hs; exact ⟨hcons _ _ trivial (fun a h => h1 a (List.mem_cons_of_mem _ h)), h2⟩
    · cases hs
  case dup =>
    simp only [sfun] at hs
    split at hs
    · cases hs; exact ⟨hcons _ _ trivial h1, h2⟩
    · cases hs; exact ⟨hcons _ _ (h1 _ List.mem_cons_self) h1, h2⟩
    · cases hs
  case pop =>
    simp only [sfun] at hs
    split at hs
    · cases hs; exact ⟨fun a h => h1 a (List.mem_cons_of_mem _ h), h2⟩
    · cases hs; exact ⟨fun a h => h1 a (List.mem_cons_of_mem _ h), h2⟩
    · cases hs
  case dup2 =>
    simp only [sfun] at hs
    split at hs
    · cases hs; exact ⟨hcons _ _ trivial (hcons _ _ trivial h1), h2⟩
    · cases hs; exact ⟨hcons _ _ trivial (hcons _ _ (h1 _ (List.mem_cons_of_mem _ List.mem_cons_self)) h1), h2⟩
    · cases hs
  all_goals (simp only [sfun] at hs; cases hs)
end SOUND1
