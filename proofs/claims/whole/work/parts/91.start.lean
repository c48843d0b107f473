/-! How both begin -/
def s00 : SS := (3, [], [], fun _ => [], fun _ => false, [], 0, fun _ => 0)
theorem nI_3 : (3 : Int32) = nI 3 := rfl
theorem CR.start {I : SI} {J : SJ} (h : AGE I) (h2 : I 25 0 1 = 0) : CR I J s00 := by
  obtain ⟨a1, a2, a3, a4, a5, a6, a7, a8, a9, a10⟩ := h
  refine ⟨⟨a1, ⟨a2, a3, by decide, by decide, by decide, fun j hj => absurd hj (by simp)⟩, fun j hj => absurd hj (by simp), false, a4, fun z => by cases z⟩, ⟨false, a5, fun z => by cases z⟩, ⟨fun j => 2 + j, ⟨fun j hj => ⟨a6 j hj, Nat.le_add_right 2 j, by show 2 + j ≤ 9; omega⟩, fun i j _ _ e => by have e : 2 + i = 2 + j := e; omega⟩, a7, by decide, fun j hj => absurd hj (by simp)⟩, fun j hj => absurd hj (by simp), ⟨a8, by decide, fun j hj => absurd hj (by simp)⟩, fun j hj => absurd hj (by simp), ⟨h2, by decide, fun j hj => absurd hj (by omega)⟩, fun b hb => ⟨?_, fun z => by cases z⟩⟩
  rcases (show b = 0 ∨ b = 1 by omega) with e | e <;> subst e
  · exact a9
  · exact a10
theorem MR.start {I : SI} (h1 : MC I) (h2 : I 29 0 6 = 3) (h3 : ∀ j, j ≠ 6 → I 29 0 j = 0) (h4 : I 30 0 0 = 0) (h5 : ∀ b, I 34 0 b = 0) : MR I s00 := by
  refine ⟨⟨h2, by decide, by decide, ⟨h4, by decide, fun j hj => absurd hj (by simp)⟩, fun j hj => absurd hj (by simp), h1⟩, ⟨false, h3 18 (by decide), fun z => by cases z⟩, ⟨h3 3 (by decide), by decide, fun j hj => absurd hj (by simp)⟩, fun j hj => absurd hj (by simp), fun b _ => ⟨h5 b, fun z => by cases z⟩, (fun b _ z => by cases z), ⟨h3 10 (by decide), by decide, fun j hj => absurd hj (by simp)⟩, fun j hj => absurd hj (by simp), ⟨h3 22 (by decide), by decide, fun j hj => absurd hj (by omega)⟩⟩
theorem MR.e5 {I : SI} {s : SS} (h : MR I s) : s.1 < 2 ^ 31 := by
  obtain ⟨ev, L, H, img, kp, S, n, t⟩ := s
  have := h.1.2.2.1
  show ev < 2 ^ 31
  omega
theorem lt_l4 : ∀ L, L < 4 → ∀ i, i ≤ L → nI L - 4 < nI i := by
  intro L hL i hi
  have : ∀ L, L < 4 → ∀ i, i < 4 → i ≤ L → nI L - 4 < nI i := by decide +kernel
  exact this L hL i (by omega) hi
