/-! A new array of arrays: the machine's step, and the store's -/
section MULTI2
variable {p : Program} {l : Launch} {e : Env} {R : Room} {s : State} {m : MethodId} {args : Array Value} {below : List Frame} {meth : Method} {c : Code} {H : Heap} {locs : List Loc} {cells slots : Nat} {Q : State → Prop}
theorem ma_step {T : State} {f : JFrame} {i : Instr} {len : Nat} (h : At T f.method c below) (hd : decode c.code f.pc = .ok (i, len)) (hw : wpRun (p.tables.exec i) (fun _ u _ => ∀ acts, ∃ t, Steps p.tables e below (afterInstr e len (.ok () u acts)).1 t ∧ Q t) (fun _ _ _ => False) e (T.setTop f)) : ∃ t, Steps p.tables e below (T.setTop f) t ∧ Q t := by
  have hw := (wpRun_iff_run _ _ _ _ _).mp hw
  have go : ∀ t, Steps p.tables e below (stepThread p.tables e (T.setTop f)).1 t → Steps p.tables e below (T.setTop f) t := fun t ht => Steps.head ⟨h.running, by rw [State.curStatus?_setTop]; exact h.runnable, by rw [State.alone_setTop]; exact h.alone⟩ (h.within f) ht
  rw [stepThread_java (State.frames_setTop' f h.top) h.plain h.code hd] at go
  cases hr : (p.tables.exec i).run e (T.setTop f) with
  | ok a u acts =>
    rw [hr] at hw go
    obtain ⟨t, a1, b1⟩ := hw acts
    exact ⟨t, go t a1, b1⟩
  | ctl x u acts =>
    rw [hr] at hw
    cases x <;> exact hw.elim
theorem ma_W {cc : ByteArray} (hexec : p.tables.exec = Jvm.exec) (hb : c.code = cc) {own : String} {index : Nat} (hown : s.vm.findClass own = some m.cls) (hclink : (Cond.classLink own index "[[I").before args s = true) (hover : AOA s) (harr : (Cond.arrayClass .int).before args s = true)
    {g : JFrame} (hg : g.method = m) (hdg : decode cc g.pc = .ok (.multianewarray index 2, 4)) {rest : List Value} (hstack : g.stack = .int 25 :: .int 5 :: rest) (hcells : cells + 6 ≤ R.cells) (hslots : slots + 130 ≤ R.slots)
    (kk : ∀ (H1 : Heap) (cA cI : ClassId) (sl : Array Value), s.vm.findClass "[[I" = some cA → s.vm.findClass "[I" = some cI → H1.size = H.size + 6 → H1[H.size]? = some { cls := cA, slots := sl, vm := .none } → sl.size = 5 → (∀ j, j < 5 → sl[j]? = some (.ref (H.size + 1 + j))) → (∀ j, j < 5 → H1[H.size + 1 + j]? = some { cls := cI, slots := Array.replicate 25 (.int 0), vm := .none }) → (∀ q, q < H.size → H1[q]? = H[q]?) →
      W p l e R s m args below meth c H1 locs (cells + 6) (slots + 130) Q { g with pc := g.pc + 4, stack := .ref H.size :: rest }) : W p l e R s m args below meth c H locs cells slots Q g := by
  intro T hT X
  subst hb
  subst hg
  have hpl : e.platform.magicAccessors = ({} : Platform).magicAccessors := by rw [X.admits.platform]
  obtain ⟨cI, cA, kA, hfI, _, hkA, hkdA, hfA⟩ := AOA.spec hover
  obtain ⟨cI2, kI, cc2, hfI2, hkI, hkdI⟩ := Cond.arrayClass_spec harr
  have ecI : cI2 = cI := Option.some.inj (hfI2.symm.trans hfI)
  subst ecI
  obtain ⟨c0, hfc0, hcl⟩ := Cond.classLink_spec hown hclink e.platform hpl
  have ec0 : c0 = cA := Option.some.inj (hfc0.symm.trans hfA)
  subst ec0
  obtain ⟨hg1, hwarm, hready⟩ := State.classEntry (e := e) X.warmed hcl
  generalize T.vm.noted g.method.cls index (.cls c0) = vm1 at hg1 hwarm hready
  have hal : s.vm.Alike vm1 := hwarm.alike
  obtain ⟨kA1, hkA1, heA⟩ := hal.2.2 _ _ hkA
  obtain ⟨kI1, hkI1, heI⟩ := hal.2.2 _ _ hkI
  have X1 := X.noted hwarm
  obtain ⟨hr1, hr2⟩ := X.roomAbove hcells hslots
  have hs : s.heap.size ≤ H.size := by rw [← hT]; exact X.heapGrown
  have key : ∀ T1 : State, ma_G p l e R s g.method args below meth c H locs cells slots T.slotsUsed vm1 c0 cI2 5 T1 → ∃ t, Steps p.tables e below (T1.setTop { g with pc := g.pc + 4, stack := .ref H.size :: rest }) t ∧ Q t := fun T1 hG => by
    obtain ⟨lx, X2, x1, x2, x3, x4, ⟨cell, y1, y2, y3, y4, y5, y6⟩, x6, x7⟩ := hG
    rw [y6] at y1
    obtain ⟨t, a1, b1⟩ := kk T1.heap c0 cI2 cell.slots hfA hfI2 (by omega) y1 y4 (fun j hj => by rw [y5 j hj, if_pos hj]) x6 x7 T1 rfl (by
      have := X2.dropFresh x1
      rw [show cells + 1 + 5 = cells + 6 by omega, show slots + 5 + 25 * 5 = slots + 130 by omega] at this
      exact this)
    exact ⟨t, a1, b1⟩
  refine ma_step X.here hdg ?_
  rw [hexec]
  show wpRun (multianewarray.sem index 2) _ _ e (T.setTop g)
  unfold wpRun
  simp only [multianewarray.sem, wp_bind', Jvm.W.resolveClassAt_links (State.method?_setTop g X.here.top) hg1]
  rw [Jvm.W.popN, if_neg (by decide)]
  refine ⟨g, State.topJava?_setTop' (s := T.setVm vm1) g X.here.top, [.int 5, .int 25], rest, rfl, hstack, ?_⟩
  simp only [List.mapM_cons, List.mapM_nil, wp_bind', wp_pure']
  have eS : ((T.setTop g).setVm vm1).setTop { g with stack := rest } = (T.setVm vm1).setTop { g with stack := rest } := by
    show ((T.setVm vm1).setTop g).setTop _ = _
    rw [State.setTop_setTop]
  rw [eS]
  refine ma_make (T := T.setVm vm1) (vm := vm1) (cc := cc2) (kA := kA1) (kI := kI1) hT rfl hs X1 hkA1 (by rw [heA]; exact hkdA) hkI1 (by rw [heI]; exact hkdI) (by rw [← hT]; omega) (by show T.slotsUsed + 130 ≤ _; omega) (by rw [Launch.admits_arrayLengthLimit X.admits]; decide) (by rw [Launch.admits_maxHeapBytes X.admits]; decide) fun T1 d1 acts1 hG => ?_
  have htop : T1.topJava?.isSome := by
    obtain ⟨lx, X2, _⟩ := hG
    exact X2.here.top
  simp only [wp_bind', Jvm.W.mark, Jvm.W.pushRef, State.topJava?_setTop' _ htop, Option.some.injEq, exists_eq_left', State.setTop_setTop]
  intro acts2
  rw [afterInstr_ok]
  exact key T1 hG
end MULTI2
