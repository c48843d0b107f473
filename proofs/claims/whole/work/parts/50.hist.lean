/-! The class: history -/
def oHistory (s : SS) (k x y : Int32) : Int32 := if isIn k 300 && two x y s.1 then (if k.toNatClampNeg < (hst s.1 s.2.1 0).length then nI (relH (nthD (hst s.1 s.2.1 0) k.toNatClampNeg h00) x.toNatClampNeg y.toNatClampNeg) else -9) else -1
theorem nthD_take {α : Type} {z : α} : ∀ {l : List α} {w j : Nat}, j < w → nthD (l.take w) j z = nthD l j z
  | [], w, j, _ => by simp
  | a :: l, 0, j, h => absurd h (by omega)
  | a :: l, w + 1, 0, _ => rfl
  | a :: l, w + 1, j + 1, h => nthD_take (l := l) (w := w) (j := j) (by omega)
set_option maxRecDepth 10000 in
theorem c_history (I : SI) (J : SJ) (s : SS) (k x y : Int32) (h : CR I J s) (d : Nat) (hd : 20 < d) : Tri d YX8_history 117 [vr 25 0, vi k, vi x, vi y] (S0 I J) (fun r σ => r = some (vi (oHistory s k x y)) ∧ ∃ I1 J1, σ = S0 I1 J1 ∧ CR I1 J1 s ∧ frC I I1) := by
  refine Tri.of (M := MX8_history) k_X8_history ⟨Nat.le_refl _, Nat.le_refl _⟩ (Nat.le_of_ble_eq_true rfl) ?_
  obtain ⟨ev, L, H, img, kp, S, n, t⟩ := s
  have hB := h.1.2.1
  have h5 := hB.2.2.2.2.1
  have bad : (isIn k 300 && two x y ev) = false → some (vi (-1 : Int32)) = some (vi (oHistory (ev, L, H, img, kp, S, n, t) k x y)) ∧ ∃ I1 J1, S0 I J = S0 I1 J1 ∧ CR I1 J1 (ev, L, H, img, kp, S, n, t) ∧ frC I I1 := fun q => by
    have e : oHistory (ev, L, H, img, kp, S, n, t) k x y = -1 := by
      unfold oHistory
      rw [if_neg (by rw [q]; decide)]
    rw [e]
    exact ⟨rfl, I, J, rfl, h, fun _ _ _ => rfl⟩
  refine Sat.of k_X8_history [] 60 ?_
  refine ⟨fun c => ⟨rfl, trivial, bad (by rw [isIn_f1 c, Bool.false_and])⟩, fun c => ⟨fun c1 => ⟨rfl, trivial, bad (by rw [isIn_f2 (n := 300) c1, Bool.false_and])⟩, fun c1 => ⟨1, 117, by omega, Nat.le_refl _, (c_areTwo I J 1 ev L x y hB 1 (by decide)).mono ?_⟩⟩⟩
  have hk : isIn k 300 = true := isIn_t (n := 300) c c1
  rintro v σ ⟨rfl, rfl⟩
  refine ⟨fun c2 => ?_, fun c2 => ⟨rfl, trivial, bad (by rw [bi_f c2, Bool.and_false])⟩⟩
  have ht := bi_t c2
  obtain ⟨i, j, i1, j1, hij, rfl, rfl⟩ := two_of ht (by omega)
  obtain ⟨m, m1, rfl⟩ := isIn_of hk (by decide)
  have em : (nI m).toNatClampNeg = m := nI_clamp (by omega)
  have eo : oHistory (ev, L, H, img, kp, S, n, t) (nI m) (nI i) (nI j) = (if m < (hst ev L 0).length then nI (relH (nthD (hst ev L 0) m h00) i j) else -9) := by
    unfold oHistory
    rw [if_pos (by rw [hk]; exact ht), em, nI_clamp (by omega), nI_clamp (by omega)]
  rw [eo]
  refine ⟨20, 117, hd, Nat.le_refl _, (c_findHistories I J ev (m + 1) L h.1 (by omega) (by omega) 20 (by decide)).to (by rw [← nI_1]) rfl ?_⟩
  rintro v σ ⟨rfl, I1, J1, rfl, q1, q2, ⟨w, q3, q3'⟩, q4, q5⟩
  refine ⟨fun c3 => ⟨rfl, trivial, ?_, I1, J1, rfl, h.F q4 q1 (h.2.1.k q5), q4.C⟩, fun c3 => ?_⟩
  · have c3 : nI (min (hst ev L 0).length (m + 1)) ≤ nI m := c3
    rw [nI_leI (by omega) (by omega)] at c3
    rw [if_neg (by omega)]
  · have c3 : ¬ nI (min (hst ev L 0).length (m + 1)) ≤ nI m := c3
    rw [nI_leI (by omega) (by omega)] at c3
    have hlt : (List.take w (hst ev L 0)).length = min w (hst ev L 0).length := List.length_take
    refine ⟨1, 117, by omega, Nat.le_refl _, (c_relation I1 J1 0 ev m i j _ q3 h5 (by omega) i1 j1 hij 1 (by decide)).mono ?_⟩
    rintro v σ ⟨rfl, rfl⟩
    refine ⟨rfl, trivial, ?_, I1, J1, rfl, h.F q4 q1 (h.2.1.k q5), q4.C⟩
    rw [if_pos (by omega), nthD_take (by omega)]
