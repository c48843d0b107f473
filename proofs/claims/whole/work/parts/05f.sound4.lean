/-! SOUNDNESS, 5: statics, texts, calls -/
def sfv (E : EV) (j o : Nat) : Value := match j with
  | 0 => .ref (adr E 67 o)
  | _ => .int 0
def gsv (E : EV) (t : Nat) : Value := match Nat.beq t 59 with
  | true => .int 1
  | false => .ref (adr E t 0)
section SOUND4
variable {E : EV} {M : MD} {d N0 N1 : Nat} {p : Program} {e : Env} {R : Room} {s : State} {m : MethodId} {args : Array Value} {below : List Frame} {meth : Method} {c : Code} {H : Heap} {locs : List Loc} {cells slots : Nat} {Z : State → Prop} {pc : Nat} {la : Array Slot} {I : SI} {J : SJ} {n : Nat} {A : SA} {rest : List Value} {σ : ST}
theorem adr_st {t k : Nat} (h : 60 ≤ t) : adr E t k = eS E t k := by
  unfold adr
  rw [if_neg (by omega)]
theorem r_tab {t : Nat} {i : Int32} {k : Int32 → Prop} (hC : Ctx E M d N0 N1 R p s m meth c args) (hS : va_S (eA E) s.heap H locs) (hw : wtab t i k) (hdg : decode (mY M).2.1 pc = .ok (.iaload, 1))
    (kk : ∀ x, k x → W p (eL E) e R s m args below meth c H locs cells slots Z (F0 m (pc + 1) la (.int x :: rest))) : W p (eL E) e R s m args below meth c H locs cells slots Z (F0 m pc la (.int i :: .ref (adr E t 0) :: rest)) := by
  obtain ⟨hx, hb, hml, hown, hts, hini, hKK, -⟩ := hC
  obtain ⟨-, -, -, -, ⟨hz, -⟩, -⟩ := hKK
  unfold wtab at hw
  split at hw
  · rw [adr_st (by omega)]
    exact va_ti hx hb (hz 0 (by decide)).2 hS hw.1 rfl hdg (kk _ hw.2)
  · rw [adr_st (by omega)]
    exact va_ti hx hb (hz 1 (by decide)).2 hS hw.1 rfl hdg (kk _ hw.2)
  · rw [adr_st (by omega)]
    exact va_ti hx hb (hz 2 (by decide)).2 hS hw.1 rfl hdg (kk _ hw.2)
  · rw [adr_st (by omega)]
    exact va_ti hx hb (hz 3 (by decide)).2 hS hw.1 rfl hdg (kk _ hw.2)
  · rw [adr_st (by omega)]
    exact va_ti hx hb (hz 4 (by decide)).2 hS hw.1 rfl hdg (kk _ hw.2)
  · exact hw.elim
theorem r_scr {i : Int32} (hC : Ctx E M d N0 N1 R p s m meth c args) (hS : va_S (eA E) s.heap H locs) (hin : vp_in i (eN E)) (hdg : decode (mY M).2.1 pc = .ok (.iaload, 1))
    (kk : W p (eL E) e R s m args below meth c H locs cells slots Z (F0 m (pc + 1) la (.int (eX E i.toNatClampNeg) :: rest))) : W p (eL E) e R s m args below meth c H locs cells slots Z (F0 m pc la (.int i :: .ref (adr E 65 0) :: rest)) := by
  obtain ⟨hx, hb, hml, hown, hts, hini, hKK, -⟩ := hC
  obtain ⟨-, -, -, -, ⟨-, -, -, hX⟩, -, h7, h8, h9⟩ := hKK
  rw [adr_st (by omega)]
  exact va_sld (A := eA E) hx hb hX (Nat.lt_of_lt_of_le h7 h9) (Nat.not_le.mpr h7) hS hin hdg kk
theorem r_scl (hC : Ctx E M d N0 N1 R p s m meth c args) (hS : va_S (eA E) s.heap H locs) (hdg : decode (mY M).2.1 pc = .ok (.arraylength, 1))
    (kk : W p (eL E) e R s m args below meth c H locs cells slots Z (F0 m (pc + 1) la (.int (nI (eN E)) :: rest))) : W p (eL E) e R s m args below meth c H locs cells slots Z (F0 m pc la (.ref (adr E 65 0) :: rest)) := by
  obtain ⟨hx, hb, hml, hown, hts, hini, hKK, -⟩ := hC
  obtain ⟨-, -, -, -, ⟨-, -, -, hX⟩, -, h7, h8, h9⟩ := hKK
  rw [adr_st (by omega)]
  exact va_slen (A := eA E) hx hb hX (Nat.lt_of_lt_of_le h7 h9) (Nat.not_le.mpr h7) hS hdg kk
theorem slen_get : ∀ o, o < 9 → slen.getD o 0 = nthD slen o 0 := by decide +kernel
theorem stxt_get : ∀ o, o < 9 → stxt.getD o [] = nthD stxt o [] := by decide +kernel
theorem nthD_getD {α : Type} : ∀ (l : List α) (j : Nat) (d : α), l.getD j d = nthD l j d
  | [], j, d => by simp [nthD]
  | a :: l, 0, d => by simp [nthD]
  | a :: l, j + 1, d => by simpa [nthD] using nthD_getD l j d
theorem r_sby {o : Nat} {i : Int32} (hC : Ctx E M d N0 N1 R p s m meth c args) (hS : va_S (eA E) s.heap H locs) (ho : o < 9) (hin : vp_in i (nthD slen o 0)) (hdg : decode (mY M).2.1 pc = .ok (.baload, 1))
    (kk : W p (eL E) e R s m args below meth c H locs cells slots Z (F0 m (pc + 1) la (.int (nthD (nthD stxt o []) i.toNatClampNeg 0) :: rest))) : W p (eL E) e R s m args below meth c H locs cells slots Z (F0 m pc la (.int i :: .ref (adr E 67 o) :: rest)) := by
  obtain ⟨hx, hb, hml, hown, hts, hini, hKK, -⟩ := hC
  obtain ⟨-, -, -, -, ⟨-, -, hs9, -⟩, -⟩ := hKK
  rw [adr_st (by omega)]
  have h1 := (hs9.1 o ho).2.2.2
  rw [slen_get o ho] at h1
  exact va_tb hx hb h1 hS hin (by rw [stxt_get o ho, nthD_getD]) hdg kk
theorem r_sbl {o : Nat} (hC : Ctx E M d N0 N1 R p s m meth c args) (hS : va_S (eA E) s.heap H locs) (ho : o < 9) (hdg : decode (mY M).2.1 pc = .ok (.arraylength, 1))
    (kk : W p (eL E) e R s m args below meth c H locs cells slots Z (F0 m (pc + 1) la (.int (nI (nthD slen o 0)) :: rest))) : W p (eL E) e R s m args below meth c H locs cells slots Z (F0 m pc la (.ref (adr E 67 o) :: rest)) := by
  obtain ⟨hx, hb, hml, hown, hts, hini, hKK, -⟩ := hC
  obtain ⟨-, -, -, -, ⟨-, -, hs9, -⟩, -⟩ := hKK
  rw [adr_st (by omega)]
  have h1 := (hs9.1 o ho).2.2.2
  rw [slen_get o ho] at h1
  exact va_tlen hx hb h1 hS rfl hdg kk
theorem r_sgf {idx j o pl : Nat} {nest : Bool} (hC : Ctx E M d N0 N1 R p s m meth c args) (hf : okF (mP M).1 (idx, 100, j, nest, pl) = true) (hS : va_S (eA E) s.heap H locs) (ho : o < 9) (hdg : decode (mY M).2.1 pc = .ok (.getfield idx, 3))
    (kk : W p (eL E) e R s m args below meth c H locs cells slots Z (F0 m (pc + 3) la (sfv E j o :: rest))) : W p (eL E) e R s m args below meth c H locs cells slots Z (F0 m pc la (.ref (adr E 66 o) :: rest)) := by
  obtain ⟨hx, hb, hml, hown, hts, hini, hKK, -⟩ := hC
  obtain ⟨-, -, -, -, ⟨-, -, hs9, -⟩, -⟩ := hKK
  rw [adr_st (by omega)]
  simp only [okF, show Nat.beq 100 100 = true from rfl, Bool.and_eq_true, decide_eq_true_eq] at hf
  obtain ⟨⟨h1, -⟩, h3⟩ := hf
  have h2 := hs9.1 o ho
  match j, h1, h3, kk with
  | 0, h1, _, kk =>
    rw [if_pos rfl, if_pos rfl] at h1
    unfold sfv at kk
    rw [adr_st (by omega)] at kk
    exact vk_getf hx hb h2.2.2.1 hS hown (hts _ (inG h1 rfl)) (fun _ h => h) hdg kk
  | 1, h1, _, kk =>
    rw [if_neg (by decide), if_neg (by decide)] at h1
    exact vk_getf hx hb h2.2.1 hS hown (hts _ (inG h1 rfl)) (fun _ h => h) hdg kk
  | j + 2, _, h3, _ => omega
theorem r_gst {idx t pl : Nat} {nest : Bool} (hC : Ctx E M d N0 N1 R p s m meth c args) (hf : okS (mP M).1 (idx, t, nest, pl) = true) (hS : va_S (eA E) s.heap H locs) (hdg : decode (mY M).2.1 pc = .ok (.getstatic idx, 3))
    (kk : W p (eL E) e R s m args below meth c H locs cells slots Z (F0 m (pc + 3) la (gsv E t :: rest))) (kn : t = 68 → W p (eL E) e R s m args below meth c H locs cells slots Z (F0 m (pc + 3) la (.null :: rest))) : W p (eL E) e R s m args below meth c H locs cells slots Z (F0 m pc la rest) := by
  obtain ⟨hx, hb, hml, hown, hts, hini, hKK, -⟩ := hC
  obtain ⟨-, hnw, -, -, ⟨hz, ⟨hcs, hsi⟩, -⟩, -⟩ := hKK
  simp only [okS] at hf
  unfold gsv at kk
  cases ht : Nat.beq t 59 with
  | true =>
    rw [ht] at hf kk
    simp only [Bool.and_eq_true, decide_eq_true_eq] at hf
    exact va_gets hx hb hcs hS hown (hts _ (inG hf.2 rfl)) (fun _ h => h) hdg kk
  | false =>
    cases ht2 : Nat.beq t 68 with
    | true =>
      rw [ht, ht2] at hf
      rw [ht] at kk
      simp only [Bool.and_eq_true, decide_eq_true_eq] at hf
      have h68 : t = 68 := Nat.eq_of_beq_eq_true ht2
      subst h68
      rw [adr_st (by decide)] at kk
      rcases hsi with hsi | hsi
      · exact va_gets hx hb hsi hS hown (hts _ (inG hf.2 rfl)) (fun _ h => h) hdg (kn rfl)
      · exact va_gets hx hb hsi hS hown (hts _ (inG hf.2 rfl)) (fun _ h => h) hdg kk
    | false =>
      rw [ht, ht2] at hf
      rw [ht] at kk
      simp only [Bool.and_eq_true, decide_eq_true_eq] at hf
      obtain ⟨⟨h1, h2⟩, h3⟩ := hf
      have hz1 := (hz (t - 60) (by omega)).1
      rw [show 60 + (t - 60) = t by omega] at hz1
      rw [adr_st h1] at kk
      cases nest with
      | true =>
        rw [if_pos rfl] at h3
        exact va_getsN hx hb hz1 hS hown (va_Nw.use rfl (hnw _ (inN (of_decide_eq_true h3) rfl))) (fun _ h => h) hdg kk
      | false =>
        rw [if_neg (by decide)] at h3
        exact va_gets hx hb hz1 hS hown (hts _ (inG (of_decide_eq_true h3) rfl)) (fun _ h => h) hdg kk
end SOUND4
