/-! The law: the class and the model answer the same -/
theorem CR.alg {I : SI} {J : SJ} {s : SS} (h : CR I J s) : ALG I := by
  obtain ⟨ev, L, H, img, kp, S, n, t⟩ := s
  exact h.1.1
theorem MR.mc {I : SI} {s : SS} (h : MR I s) : MC I := by
  obtain ⟨ev, L, H, img, kp, S, n, t⟩ := s
  exact h.1.2.2.2.2.2
set_option maxRecDepth 10000 in
theorem l_type {L : Nat} {xs : Nat → Int32} {i d : Nat} {Q : Option AV → ST → Prop} (hd : 22 < d) (v1 : vp_in (nI i + 1) L) (v2 : vp_in (nI i + 2) L) (v3 : vp_in (nI i + 3) L) (go : ∀ I J s, CR I J s → MR I s → Sat (some (L, xs)) ML_law d 117 Q 719 [some (vr 65 0), some (vr 25 0), some (vr 29 0), some (vi (nI i))] [] (S0 I J)) (I : SI) (J : SJ) (s : SS) (h : CR I J s) (hm : MR I s) : Sat (some (L, xs)) ML_law d 117 Q 140 [some (vr 65 0), some (vr 25 0), some (vr 29 0), some (vi (nI i))] [] (S0 I J) := by
  refine Sat.of k_L_law [18, 719] 60 ?_
  refine ⟨v1, 22, 117, hd, Nat.le_refl _, (c_type I J s (xs (nI i + 1).toNatClampNeg) h 22).mono ?_⟩
  rintro r σ ⟨rfl, I1, rfl, hc, hf⟩
  refine ⟨v1, 6, 117, by omega, Nat.le_refl _, (m_type I1 J s (xs (nI i + 1).toNatClampNeg) (hm.C hf) 6 (by decide)).mono ?_⟩
  rintro r σ ⟨rfl, I2, rfl, hm2, hk⟩
  exact ⟨fun _ => go I2 J _ (hc.K hk) hm2, fun c => absurd rfl c⟩
set_option maxRecDepth 10000 in
theorem l_clear {L : Nat} {xs : Nat → Int32} {i d : Nat} {Q : Option AV → ST → Prop} (hd : 22 < d) (v1 : vp_in (nI i + 1) L) (v2 : vp_in (nI i + 2) L) (v3 : vp_in (nI i + 3) L) (go : ∀ I J s, CR I J s → MR I s → Sat (some (L, xs)) ML_law d 117 Q 719 [some (vr 65 0), some (vr 25 0), some (vr 29 0), some (vi (nI i))] [] (S0 I J)) (I : SI) (J : SJ) (s : SS) (h : CR I J s) (hm : MR I s) : Sat (some (L, xs)) ML_law d 117 Q 163 [some (vr 65 0), some (vr 25 0), some (vr 29 0), some (vi (nI i))] [] (S0 I J) := by
  refine Sat.of k_L_law [18, 719] 60 ?_
  refine ⟨22, 117, hd, Nat.le_refl _, (c_clear I J s  h 22).mono ?_⟩
  rintro r σ ⟨rfl, I1, rfl, hc, hf⟩
  refine ⟨6, 117, by omega, Nat.le_refl _, (m_clear I1 J s  (hm.C hf) 6).mono ?_⟩
  rintro r σ ⟨rfl, I2, rfl, hm2, hk⟩
  exact ⟨fun _ => go I2 J _ (hc.K hk) hm2, fun c => absurd rfl c⟩
set_option maxRecDepth 10000 in
theorem l_tells {L : Nat} {xs : Nat → Int32} {i d : Nat} {Q : Option AV → ST → Prop} (hd : 22 < d) (v1 : vp_in (nI i + 1) L) (v2 : vp_in (nI i + 2) L) (v3 : vp_in (nI i + 3) L) (go : ∀ I J s, CR I J s → MR I s → Sat (some (L, xs)) ML_law d 117 Q 719 [some (vr 65 0), some (vr 25 0), some (vr 29 0), some (vi (nI i))] [] (S0 I J)) (I : SI) (J : SJ) (s : SS) (h : CR I J s) (hm : MR I s) : Sat (some (L, xs)) ML_law d 117 Q 176 [some (vr 65 0), some (vr 25 0), some (vr 29 0), some (vi (nI i))] [] (S0 I J) := by
  refine Sat.of k_L_law [18, 719] 60 ?_
  refine ⟨22, 117, hd, Nat.le_refl _, (c_tells I J s  h 22 (by decide)).mono ?_⟩
  rintro r σ ⟨rfl, I1, rfl, hc, hf⟩
  refine ⟨6, 117, by omega, Nat.le_refl _, (m_tells I1 J s  (hm.C hf) 6 (by decide)).mono ?_⟩
  rintro r σ ⟨rfl, I2, rfl, hm2, hk⟩
  exact ⟨fun _ => go I2 J _ (hc.K hk) hm2, fun c => absurd rfl c⟩
set_option maxRecDepth 10000 in
theorem l_observed {L : Nat} {xs : Nat → Int32} {i d : Nat} {Q : Option AV → ST → Prop} (hd : 22 < d) (v1 : vp_in (nI i + 1) L) (v2 : vp_in (nI i + 2) L) (v3 : vp_in (nI i + 3) L) (go : ∀ I J s, CR I J s → MR I s → Sat (some (L, xs)) ML_law d 117 Q 719 [some (vr 65 0), some (vr 25 0), some (vr 29 0), some (vi (nI i))] [] (S0 I J)) (I : SI) (J : SJ) (s : SS) (h : CR I J s) (hm : MR I s) : Sat (some (L, xs)) ML_law d 117 Q 189 [some (vr 65 0), some (vr 25 0), some (vr 29 0), some (vi (nI i))] [] (S0 I J) := by
  refine Sat.of k_L_law [18, 719] 60 ?_
  refine ⟨v1, v2, 22, 117, hd, Nat.le_refl _, (c_observed I J s (xs (nI i + 1).toNatClampNeg) (xs (nI i + 2).toNatClampNeg) h 22 (by decide)).mono ?_⟩
  rintro r σ ⟨rfl, rfl⟩
  refine ⟨v1, v2, 6, 117, by omega, Nat.le_refl _, (m_observed I J s (xs (nI i + 1).toNatClampNeg) (xs (nI i + 2).toNatClampNeg) hm 6 (by decide)).mono ?_⟩
  rintro r σ ⟨rfl, rfl⟩
  exact ⟨fun _ => go I J _ h hm, fun c => absurd rfl c⟩
set_option maxRecDepth 10000 in
theorem l_adds {L : Nat} {xs : Nat → Int32} {i d : Nat} {Q : Option AV → ST → Prop} (hd : 22 < d) (v1 : vp_in (nI i + 1) L) (v2 : vp_in (nI i + 2) L) (v3 : vp_in (nI i + 3) L) (go : ∀ I J s, CR I J s → MR I s → Sat (some (L, xs)) ML_law d 117 Q 719 [some (vr 65 0), some (vr 25 0), some (vr 29 0), some (vi (nI i))] [] (S0 I J)) (I : SI) (J : SJ) (s : SS) (h : CR I J s) (hm : MR I s) : Sat (some (L, xs)) ML_law d 117 Q 222 [some (vr 65 0), some (vr 25 0), some (vr 29 0), some (vi (nI i))] [] (S0 I J) := by
  refine Sat.of k_L_law [18, 719] 60 ?_
  refine ⟨v1, v2, v3, 22, 117, hd, Nat.le_refl _, (c_adds I J s (xs (nI i + 1).toNatClampNeg) (xs (nI i + 2).toNatClampNeg) (xs (nI i + 3).toNatClampNeg) h 22 (by decide)).mono ?_⟩
  rintro r σ ⟨rfl, I1, rfl, hc, hf⟩
  refine ⟨v1, v2, v3, 6, 117, by omega, Nat.le_refl _, (m_adds I1 J s (xs (nI i + 1).toNatClampNeg) (xs (nI i + 2).toNatClampNeg) (xs (nI i + 3).toNatClampNeg) (hm.C hf) 6 (by decide)).mono ?_⟩
  rintro r σ ⟨rfl, I2, rfl, hm2, hk⟩
  exact ⟨fun _ => go I2 J _ (hc.K hk) hm2, fun c => absurd rfl c⟩
set_option maxRecDepth 10000 in
theorem l_takes {L : Nat} {xs : Nat → Int32} {i d : Nat} {Q : Option AV → ST → Prop} (hd : 22 < d) (v1 : vp_in (nI i + 1) L) (v2 : vp_in (nI i + 2) L) (v3 : vp_in (nI i + 3) L) (go : ∀ I J s, CR I J s → MR I s → Sat (some (L, xs)) ML_law d 117 Q 719 [some (vr 65 0), some (vr 25 0), some (vr 29 0), some (vi (nI i))] [] (S0 I J)) (I : SI) (J : SJ) (s : SS) (h : CR I J s) (hm : MR I s) : Sat (some (L, xs)) ML_law d 117 Q 265 [some (vr 65 0), some (vr 25 0), some (vr 29 0), some (vi (nI i))] [] (S0 I J) := by
  refine Sat.of k_L_law [18, 719] 60 ?_
  refine ⟨v1, 22, 117, hd, Nat.le_refl _, (c_takes I J s (xs (nI i + 1).toNatClampNeg) h 22 (by decide)).mono ?_⟩
  rintro r σ ⟨rfl, I1, rfl, hc, hf⟩
  refine ⟨v1, 6, 117, by omega, Nat.le_refl _, (m_takes I1 J s (xs (nI i + 1).toNatClampNeg) (hm.C hf) 6 (by decide)).mono ?_⟩
  rintro r σ ⟨rfl, I2, rfl, hm2, hk⟩
  exact ⟨fun _ => go I2 J _ (hc.K hk) hm2, fun c => absurd rfl c⟩
set_option maxRecDepth 10000 in
theorem l_turns {L : Nat} {xs : Nat → Int32} {i d : Nat} {Q : Option AV → ST → Prop} (hd : 22 < d) (v1 : vp_in (nI i + 1) L) (v2 : vp_in (nI i + 2) L) (v3 : vp_in (nI i + 3) L) (go : ∀ I J s, CR I J s → MR I s → Sat (some (L, xs)) ML_law d 117 Q 719 [some (vr 65 0), some (vr 25 0), some (vr 29 0), some (vi (nI i))] [] (S0 I J)) (I : SI) (J : SJ) (s : SS) (h : CR I J s) (hm : MR I s) : Sat (some (L, xs)) ML_law d 117 Q 288 [some (vr 65 0), some (vr 25 0), some (vr 29 0), some (vi (nI i))] [] (S0 I J) := by
  refine Sat.of k_L_law [18, 719] 60 ?_
  refine ⟨v1, v2, 22, 117, hd, Nat.le_refl _, (c_turns I J s (xs (nI i + 1).toNatClampNeg) (xs (nI i + 2).toNatClampNeg) h 22 (by decide)).mono ?_⟩
  rintro r σ ⟨rfl, I1, rfl, hc, hf⟩
  refine ⟨v1, v2, 6, 117, by omega, Nat.le_refl _, (m_turns I1 J s (xs (nI i + 1).toNatClampNeg) (xs (nI i + 2).toNatClampNeg) (hm.C hf) 6 (by decide)).mono ?_⟩
  rintro r σ ⟨rfl, I2, rfl, hm2, hk⟩
  exact ⟨fun _ => go I2 J _ (hc.K hk) hm2, fun c => absurd rfl c⟩
set_option maxRecDepth 10000 in
theorem l_undo {L : Nat} {xs : Nat → Int32} {i d : Nat} {Q : Option AV → ST → Prop} (hd : 22 < d) (v1 : vp_in (nI i + 1) L) (v2 : vp_in (nI i + 2) L) (v3 : vp_in (nI i + 3) L) (go : ∀ I J s, CR I J s → MR I s → Sat (some (L, xs)) ML_law d 117 Q 719 [some (vr 65 0), some (vr 25 0), some (vr 29 0), some (vi (nI i))] [] (S0 I J)) (I : SI) (J : SJ) (s : SS) (h : CR I J s) (hm : MR I s) : Sat (some (L, xs)) ML_law d 117 Q 321 [some (vr 65 0), some (vr 25 0), some (vr 29 0), some (vi (nI i))] [] (S0 I J) := by
  refine Sat.of k_L_law [18, 719] 60 ?_
  refine ⟨22, 117, hd, Nat.le_refl _, (c_undo I J s  h 22 (by decide)).mono ?_⟩
  rintro r σ ⟨rfl, I1, rfl, hc, hf⟩
  refine ⟨6, 117, by omega, Nat.le_refl _, (m_undo I1 J s  (hm.C hf) 6).mono ?_⟩
  rintro r σ ⟨rfl, I2, rfl, hm2, hk⟩
  exact ⟨fun _ => go I2 J _ (hc.K hk) hm2, fun c => absurd rfl c⟩
set_option maxRecDepth 10000 in
theorem l_turned {L : Nat} {xs : Nat → Int32} {i d : Nat} {Q : Option AV → ST → Prop} (hd : 22 < d) (v1 : vp_in (nI i + 1) L) (v2 : vp_in (nI i + 2) L) (v3 : vp_in (nI i + 3) L) (go : ∀ I J s, CR I J s → MR I s → Sat (some (L, xs)) ML_law d 117 Q 719 [some (vr 65 0), some (vr 25 0), some (vr 29 0), some (vi (nI i))] [] (S0 I J)) (I : SI) (J : SJ) (s : SS) (h : CR I J s) (hm : MR I s) : Sat (some (L, xs)) ML_law d 117 Q 334 [some (vr 65 0), some (vr 25 0), some (vr 29 0), some (vi (nI i))] [] (S0 I J) := by
  refine Sat.of k_L_law [18, 719] 60 ?_
  refine ⟨v1, 22, 117, hd, Nat.le_refl _, (c_turned I J (xs (nI i + 1).toNatClampNeg) 22 (by decide)).mono ?_⟩
  rintro r σ ⟨rfl, rfl⟩
  refine ⟨v1, 6, 117, by omega, Nat.le_refl _, (m_turned I J (xs (nI i + 1).toNatClampNeg) 6 (by decide)).mono ?_⟩
  rintro r σ ⟨rfl, rfl⟩
  exact ⟨fun _ => go I J _ h hm, fun c => absurd rfl c⟩
set_option maxRecDepth 10000 in
theorem l_composed {L : Nat} {xs : Nat → Int32} {i d : Nat} {Q : Option AV → ST → Prop} (hd : 22 < d) (v1 : vp_in (nI i + 1) L) (v2 : vp_in (nI i + 2) L) (v3 : vp_in (nI i + 3) L) (go : ∀ I J s, CR I J s → MR I s → Sat (some (L, xs)) ML_law d 117 Q 719 [some (vr 65 0), some (vr 25 0), some (vr 29 0), some (vi (nI i))] [] (S0 I J)) (I : SI) (J : SJ) (s : SS) (h : CR I J s) (hm : MR I s) : Sat (some (L, xs)) ML_law d 117 Q 357 [some (vr 65 0), some (vr 25 0), some (vr 29 0), some (vi (nI i))] [] (S0 I J) := by
  refine Sat.of k_L_law [18, 719] 60 ?_
  refine ⟨v1, v2, 22, 117, hd, Nat.le_refl _, (c_composed I J (xs (nI i + 1).toNatClampNeg) (xs (nI i + 2).toNatClampNeg) h.alg 22 (by decide)).mono ?_⟩
  rintro r σ ⟨rfl, rfl⟩
  refine ⟨v1, v2, 6, 117, by omega, Nat.le_refl _, (m_composed I J (xs (nI i + 1).toNatClampNeg) (xs (nI i + 2).toNatClampNeg) hm.mc 6 (by decide)).mono ?_⟩
  rintro r σ ⟨rfl, rfl⟩
  exact ⟨fun _ => go I J _ h hm, fun c => absurd rfl c⟩
set_option maxRecDepth 10000 in
theorem l_left {L : Nat} {xs : Nat → Int32} {i d : Nat} {Q : Option AV → ST → Prop} (hd : 22 < d) (v1 : vp_in (nI i + 1) L) (v2 : vp_in (nI i + 2) L) (v3 : vp_in (nI i + 3) L) (go : ∀ I J s, CR I J s → MR I s → Sat (some (L, xs)) ML_law d 117 Q 719 [some (vr 65 0), some (vr 25 0), some (vr 29 0), some (vi (nI i))] [] (S0 I J)) (I : SI) (J : SJ) (s : SS) (h : CR I J s) (hm : MR I s) : Sat (some (L, xs)) ML_law d 117 Q 390 [some (vr 65 0), some (vr 25 0), some (vr 29 0), some (vi (nI i))] [] (S0 I J) := by
  refine Sat.of k_L_law [18, 719] 60 ?_
  refine ⟨v1, v2, v3, 22, 117, hd, Nat.le_refl _, (c_left I J s (xs (nI i + 1).toNatClampNeg) (xs (nI i + 2).toNatClampNeg) (xs (nI i + 3).toNatClampNeg) h 22 (by decide)).mono ?_⟩
  rintro r σ ⟨v, I1, J1, rfl, w1, rfl, hc, hf⟩
  refine ⟨v1, v2, v3, 6, 117, by omega, Nat.le_refl _, (m_left I1 J1 s (xs (nI i + 1).toNatClampNeg) (xs (nI i + 2).toNatClampNeg) (xs (nI i + 3).toNatClampNeg) (hm.C hf) 6 (by decide)).mono ?_⟩
  rintro r σ ⟨u, I2, rfl, w2, rfl, hm2, hk⟩
  exact ⟨fun _ => go I2 J1 _ (hc.K hk) hm2, fun c => absurd (w1.uni w2 hm.e5) c⟩
set_option maxRecDepth 10000 in
theorem l_many {L : Nat} {xs : Nat → Int32} {i d : Nat} {Q : Option AV → ST → Prop} (hd : 22 < d) (v1 : vp_in (nI i + 1) L) (v2 : vp_in (nI i + 2) L) (v3 : vp_in (nI i + 3) L) (go : ∀ I J s, CR I J s → MR I s → Sat (some (L, xs)) ML_law d 117 Q 719 [some (vr 65 0), some (vr 25 0), some (vr 29 0), some (vi (nI i))] [] (S0 I J)) (I : SI) (J : SJ) (s : SS) (h : CR I J s) (hm : MR I s) : Sat (some (L, xs)) ML_law d 117 Q 433 [some (vr 65 0), some (vr 25 0), some (vr 29 0), some (vi (nI i))] [] (S0 I J) := by
  refine Sat.of k_L_law [18, 719] 60 ?_
  refine ⟨v1, 22, 117, hd, Nat.le_refl _, (c_many I J s (xs (nI i + 1).toNatClampNeg) h 22 (by decide)).mono ?_⟩
  rintro r σ ⟨rfl, I1, J1, rfl, hc, hf⟩
  refine ⟨v1, 6, 117, by omega, Nat.le_refl _, (m_many I1 J1 s (xs (nI i + 1).toNatClampNeg) (hm.C hf) 6 (by decide)).mono ?_⟩
  rintro r σ ⟨rfl, I2, rfl, hm2, hk⟩
  exact ⟨fun _ => go I2 J1 _ (hc.K hk) hm2, fun c => absurd rfl c⟩
set_option maxRecDepth 10000 in
theorem l_history {L : Nat} {xs : Nat → Int32} {i d : Nat} {Q : Option AV → ST → Prop} (hd : 22 < d) (v1 : vp_in (nI i + 1) L) (v2 : vp_in (nI i + 2) L) (v3 : vp_in (nI i + 3) L) (go : ∀ I J s, CR I J s → MR I s → Sat (some (L, xs)) ML_law d 117 Q 719 [some (vr 65 0), some (vr 25 0), some (vr 29 0), some (vi (nI i))] [] (S0 I J)) (I : SI) (J : SJ) (s : SS) (h : CR I J s) (hm : MR I s) : Sat (some (L, xs)) ML_law d 117 Q 456 [some (vr 65 0), some (vr 25 0), some (vr 29 0), some (vi (nI i))] [] (S0 I J) := by
  refine Sat.of k_L_law [18, 719] 60 ?_
  refine ⟨v1, v2, v3, 22, 117, hd, Nat.le_refl _, (c_history I J s (xs (nI i + 1).toNatClampNeg) (xs (nI i + 2).toNatClampNeg) (xs (nI i + 3).toNatClampNeg) h 22 (by decide)).mono ?_⟩
  rintro r σ ⟨rfl, I1, J1, rfl, hc, hf⟩
  refine ⟨v1, v2, v3, 6, 117, by omega, Nat.le_refl _, (m_history I1 J1 s (xs (nI i + 1).toNatClampNeg) (xs (nI i + 2).toNatClampNeg) (xs (nI i + 3).toNatClampNeg) (hm.C hf) 6 (by decide)).mono ?_⟩
  rintro r σ ⟨rfl, I2, rfl, hm2, hk⟩
  exact ⟨fun _ => go I2 J1 _ (hc.K hk) hm2, fun c => absurd rfl c⟩
set_option maxRecDepth 10000 in
theorem l_point {L : Nat} {xs : Nat → Int32} {i d : Nat} {Q : Option AV → ST → Prop} (hd : 22 < d) (v1 : vp_in (nI i + 1) L) (v2 : vp_in (nI i + 2) L) (v3 : vp_in (nI i + 3) L) (go : ∀ I J s, CR I J s → MR I s → Sat (some (L, xs)) ML_law d 117 Q 719 [some (vr 65 0), some (vr 25 0), some (vr 29 0), some (vi (nI i))] [] (S0 I J)) (I : SI) (J : SJ) (s : SS) (h : CR I J s) (hm : MR I s) : Sat (some (L, xs)) ML_law d 117 Q 499 [some (vr 65 0), some (vr 25 0), some (vr 29 0), some (vi (nI i))] [] (S0 I J) := by
  refine Sat.of k_L_law [18, 719] 60 ?_
  refine ⟨v1, v2, 22, 117, hd, Nat.le_refl _, (c_point I J s (xs (nI i + 1).toNatClampNeg) (xs (nI i + 2).toNatClampNeg) h 22 (by decide)).mono ?_⟩
  rintro r σ ⟨v, I1, J1, rfl, w1, rfl, hc, hf⟩
  refine ⟨v1, v2, 6, 117, by omega, Nat.le_refl _, (m_point I1 J1 s (xs (nI i + 1).toNatClampNeg) (xs (nI i + 2).toNatClampNeg) (hm.C hf) 6 (by decide)).mono ?_⟩
  rintro r σ ⟨u, I2, rfl, w2, rfl, hm2, hk⟩
  exact ⟨fun _ => go I2 J1 _ (hc.K hk) hm2, fun c => absurd (w2 _ w1) c⟩
set_option maxRecDepth 10000 in
theorem l_wrong {L : Nat} {xs : Nat → Int32} {i d : Nat} {Q : Option AV → ST → Prop} (hd : 22 < d) (v1 : vp_in (nI i + 1) L) (v2 : vp_in (nI i + 2) L) (v3 : vp_in (nI i + 3) L) (go : ∀ I J s, CR I J s → MR I s → Sat (some (L, xs)) ML_law d 117 Q 719 [some (vr 65 0), some (vr 25 0), some (vr 29 0), some (vi (nI i))] [] (S0 I J)) (I : SI) (J : SJ) (s : SS) (h : CR I J s) (hm : MR I s) : Sat (some (L, xs)) ML_law d 117 Q 532 [some (vr 65 0), some (vr 25 0), some (vr 29 0), some (vi (nI i))] [] (S0 I J) := by
  refine Sat.of k_L_law [18, 719] 60 ?_
  refine ⟨v1, 22, 117, hd, Nat.le_refl _, (c_wrong I J s (xs (nI i + 1).toNatClampNeg) h 22 (by decide)).mono ?_⟩
  rintro r σ ⟨rfl, I1, J1, rfl, hc, hf⟩
  refine ⟨v1, 6, 117, by omega, Nat.le_refl _, (m_wrong I1 J1 s (xs (nI i + 1).toNatClampNeg) (hm.C hf) 6 (by decide)).mono ?_⟩
  rintro r σ ⟨rfl, I2, rfl, hm2, hk⟩
  exact ⟨fun _ => go I2 J1 _ (hc.K hk) hm2, fun c => absurd rfl c⟩
set_option maxRecDepth 10000 in
theorem l_eldest {L : Nat} {xs : Nat → Int32} {i d : Nat} {Q : Option AV → ST → Prop} (hd : 22 < d) (v1 : vp_in (nI i + 1) L) (v2 : vp_in (nI i + 2) L) (v3 : vp_in (nI i + 3) L) (go : ∀ I J s, CR I J s → MR I s → Sat (some (L, xs)) ML_law d 117 Q 719 [some (vr 65 0), some (vr 25 0), some (vr 29 0), some (vi (nI i))] [] (S0 I J)) (I : SI) (J : SJ) (s : SS) (h : CR I J s) (hm : MR I s) : Sat (some (L, xs)) ML_law d 117 Q 555 [some (vr 65 0), some (vr 25 0), some (vr 29 0), some (vi (nI i))] [] (S0 I J) := by
  refine Sat.of k_L_law [18, 719] 60 ?_
  refine ⟨22, 117, hd, Nat.le_refl _, (c_eldestA I J s  h 22 (by decide)).mono ?_⟩
  rintro r σ ⟨rfl, I1, J1, rfl, hc, hf⟩
  refine ⟨6, 117, by omega, Nat.le_refl _, (m_eldest I1 J1 s  (hm.C hf) 6 (by decide)).mono ?_⟩
  rintro r σ ⟨rfl, I2, rfl, hm2, hk⟩
  exact ⟨fun _ => go I2 J1 _ (hc.K hk) hm2, fun c => absurd rfl c⟩
set_option maxRecDepth 10000 in
theorem l_next {L : Nat} {xs : Nat → Int32} {i d : Nat} {Q : Option AV → ST → Prop} (hd : 22 < d) (v1 : vp_in (nI i + 1) L) (v2 : vp_in (nI i + 2) L) (v3 : vp_in (nI i + 3) L) (go : ∀ I J s, CR I J s → MR I s → Sat (some (L, xs)) ML_law d 117 Q 719 [some (vr 65 0), some (vr 25 0), some (vr 29 0), some (vi (nI i))] [] (S0 I J)) (I : SI) (J : SJ) (s : SS) (h : CR I J s) (hm : MR I s) : Sat (some (L, xs)) ML_law d 117 Q 568 [some (vr 65 0), some (vr 25 0), some (vr 29 0), some (vi (nI i))] [] (S0 I J) := by
  refine Sat.of k_L_law [18, 719] 60 ?_
  refine ⟨22, 117, hd, Nat.le_refl _, (c_next I J s  h 22 (by decide)).mono ?_⟩
  rintro r σ ⟨rfl, I1, J1, rfl, hc, hf⟩
  refine ⟨6, 117, by omega, Nat.le_refl _, (m_next I1 J1 s  (hm.C hf) 6 (by decide)).mono ?_⟩
  rintro r σ ⟨rfl, I2, rfl, hm2, hk⟩
  exact ⟨fun _ => go I2 J1 _ (hc.K hk) hm2, fun c => absurd rfl c⟩
set_option maxRecDepth 10000 in
theorem l_sees {L : Nat} {xs : Nat → Int32} {i d : Nat} {Q : Option AV → ST → Prop} (hd : 22 < d) (v1 : vp_in (nI i + 1) L) (v2 : vp_in (nI i + 2) L) (v3 : vp_in (nI i + 3) L) (go : ∀ I J s, CR I J s → MR I s → Sat (some (L, xs)) ML_law d 117 Q 719 [some (vr 65 0), some (vr 25 0), some (vr 29 0), some (vi (nI i))] [] (S0 I J)) (I : SI) (J : SJ) (s : SS) (h : CR I J s) (hm : MR I s) : Sat (some (L, xs)) ML_law d 117 Q 581 [some (vr 65 0), some (vr 25 0), some (vr 29 0), some (vi (nI i))] [] (S0 I J) := by
  refine Sat.of k_L_law [18, 719] 60 ?_
  refine ⟨v1, v2, v3, 22, 117, hd, Nat.le_refl _, (c_sees I J s (xs (nI i + 1).toNatClampNeg) (xs (nI i + 2).toNatClampNeg) (xs (nI i + 3).toNatClampNeg) h 22 (by decide)).mono ?_⟩
  rintro r σ ⟨rfl, I1, rfl, hc, hf⟩
  refine ⟨v1, v2, v3, 6, 117, by omega, Nat.le_refl _, (m_sees I1 J s (xs (nI i + 1).toNatClampNeg) (xs (nI i + 2).toNatClampNeg) (xs (nI i + 3).toNatClampNeg) (hm.C hf) 6 (by decide)).mono ?_⟩
  rintro r σ ⟨rfl, I2, rfl, hm2, hk⟩
  exact ⟨fun _ => go I2 J _ (hc.K hk) hm2, fun c => absurd rfl c⟩
set_option maxRecDepth 10000 in
theorem l_forget {L : Nat} {xs : Nat → Int32} {i d : Nat} {Q : Option AV → ST → Prop} (hd : 22 < d) (v1 : vp_in (nI i + 1) L) (v2 : vp_in (nI i + 2) L) (v3 : vp_in (nI i + 3) L) (go : ∀ I J s, CR I J s → MR I s → Sat (some (L, xs)) ML_law d 117 Q 719 [some (vr 65 0), some (vr 25 0), some (vr 29 0), some (vi (nI i))] [] (S0 I J)) (I : SI) (J : SJ) (s : SS) (h : CR I J s) (hm : MR I s) : Sat (some (L, xs)) ML_law d 117 Q 624 [some (vr 65 0), some (vr 25 0), some (vr 29 0), some (vi (nI i))] [] (S0 I J) := by
  refine Sat.of k_L_law [18, 719] 60 ?_
  refine ⟨22, 117, hd, Nat.le_refl _, (c_forget I J s  h 22).mono ?_⟩
  rintro r σ ⟨rfl, I1, rfl, hc, hf⟩
  refine ⟨6, 117, by omega, Nat.le_refl _, (m_forget I1 J s  (hm.C hf) 6).mono ?_⟩
  rintro r σ ⟨rfl, I2, rfl, hm2, hk⟩
  exact ⟨fun _ => go I2 J _ (hc.K hk) hm2, fun c => absurd rfl c⟩
set_option maxRecDepth 10000 in
theorem l_unseen {L : Nat} {xs : Nat → Int32} {i d : Nat} {Q : Option AV → ST → Prop} (hd : 22 < d) (v1 : vp_in (nI i + 1) L) (v2 : vp_in (nI i + 2) L) (v3 : vp_in (nI i + 3) L) (go : ∀ I J s, CR I J s → MR I s → Sat (some (L, xs)) ML_law d 117 Q 719 [some (vr 65 0), some (vr 25 0), some (vr 29 0), some (vi (nI i))] [] (S0 I J)) (I : SI) (J : SJ) (s : SS) (h : CR I J s) (hm : MR I s) : Sat (some (L, xs)) ML_law d 117 Q 637 [some (vr 65 0), some (vr 25 0), some (vr 29 0), some (vi (nI i))] [] (S0 I J) := by
  refine Sat.of k_L_law [18, 719] 60 ?_
  refine ⟨22, 117, hd, Nat.le_refl _, (c_unseen I J s  h 22 (by decide)).mono ?_⟩
  rintro r σ ⟨rfl, I1, J1, rfl, hc, hf⟩
  refine ⟨6, 117, by omega, Nat.le_refl _, (m_unseen I1 J1 s  (hm.C hf) 6 (by decide)).mono ?_⟩
  rintro r σ ⟨rfl, I2, rfl, hm2, hk⟩
  exact ⟨fun _ => go I2 J1 _ (hc.K hk) hm2, fun c => absurd rfl c⟩
set_option maxRecDepth 10000 in
theorem l_keep {L : Nat} {xs : Nat → Int32} {i d : Nat} {Q : Option AV → ST → Prop} (hd : 22 < d) (v1 : vp_in (nI i + 1) L) (v2 : vp_in (nI i + 2) L) (v3 : vp_in (nI i + 3) L) (go : ∀ I J s, CR I J s → MR I s → Sat (some (L, xs)) ML_law d 117 Q 719 [some (vr 65 0), some (vr 25 0), some (vr 29 0), some (vi (nI i))] [] (S0 I J)) (I : SI) (J : SJ) (s : SS) (h : CR I J s) (hm : MR I s) : Sat (some (L, xs)) ML_law d 117 Q 650 [some (vr 65 0), some (vr 25 0), some (vr 29 0), some (vi (nI i))] [] (S0 I J) := by
  refine Sat.of k_L_law [18, 719] 60 ?_
  refine ⟨v1, 22, 117, hd, Nat.le_refl _, (c_keep I J s (xs (nI i + 1).toNatClampNeg) h 22 (by decide)).mono ?_⟩
  rintro r σ ⟨rfl, I1, rfl, hc, hf⟩
  refine ⟨v1, 6, 117, by omega, Nat.le_refl _, (m_keep I1 J s (xs (nI i + 1).toNatClampNeg) (hm.C hf) 6 (by decide)).mono ?_⟩
  rintro r σ ⟨rfl, I2, rfl, hm2, hk⟩
  exact ⟨fun _ => go I2 J _ (hc.K hk) hm2, fun c => absurd rfl c⟩
set_option maxRecDepth 10000 in
theorem l_back {L : Nat} {xs : Nat → Int32} {i d : Nat} {Q : Option AV → ST → Prop} (hd : 22 < d) (v1 : vp_in (nI i + 1) L) (v2 : vp_in (nI i + 2) L) (v3 : vp_in (nI i + 3) L) (go : ∀ I J s, CR I J s → MR I s → Sat (some (L, xs)) ML_law d 117 Q 719 [some (vr 65 0), some (vr 25 0), some (vr 29 0), some (vi (nI i))] [] (S0 I J)) (I : SI) (J : SJ) (s : SS) (h : CR I J s) (hm : MR I s) : Sat (some (L, xs)) ML_law d 117 Q 673 [some (vr 65 0), some (vr 25 0), some (vr 29 0), some (vi (nI i))] [] (S0 I J) := by
  refine Sat.of k_L_law [18, 719] 60 ?_
  refine ⟨v1, 22, 117, hd, Nat.le_refl _, (c_back I J s (xs (nI i + 1).toNatClampNeg) h 22 (by decide)).mono ?_⟩
  rintro r σ ⟨rfl, I1, rfl, hc, hf⟩
  refine ⟨v1, 6, 117, by omega, Nat.le_refl _, (m_back I1 J s (xs (nI i + 1).toNatClampNeg) (hm.C hf) 6 (by decide)).mono ?_⟩
  rintro r σ ⟨rfl, I2, rfl, hm2, hk⟩
  exact ⟨fun _ => go I2 J _ (hc.K hk) hm2, fun c => absurd rfl c⟩
set_option maxRecDepth 10000 in
theorem l_count {L : Nat} {xs : Nat → Int32} {i d : Nat} {Q : Option AV → ST → Prop} (hd : 22 < d) (v1 : vp_in (nI i + 1) L) (v2 : vp_in (nI i + 2) L) (v3 : vp_in (nI i + 3) L) (go : ∀ I J s, CR I J s → MR I s → Sat (some (L, xs)) ML_law d 117 Q 719 [some (vr 65 0), some (vr 25 0), some (vr 29 0), some (vi (nI i))] [] (S0 I J)) (I : SI) (J : SJ) (s : SS) (h : CR I J s) (hm : MR I s) : Sat (some (L, xs)) ML_law d 117 Q 696 [some (vr 65 0), some (vr 25 0), some (vr 29 0), some (vi (nI i))] [] (S0 I J) := by
  refine Sat.of k_L_law [18, 719] 60 ?_
  refine ⟨v1, 22, 117, hd, Nat.le_refl _, (c_count I J s (xs (nI i + 1).toNatClampNeg) h 22 (by decide)).mono ?_⟩
  rintro r σ ⟨v, I1, J1, rfl, w1, rfl, hc, hf⟩
  refine ⟨v1, 6, 117, by omega, Nat.le_refl _, (m_count I1 J1 s (xs (nI i + 1).toNatClampNeg) (hm.C hf) 6 (by decide)).mono ?_⟩
  rintro r σ ⟨u, I2, rfl, w2, rfl, hm2, hk⟩
  exact ⟨fun _ => go I2 J1 _ (hc.K hk) hm2, fun c => absurd (w2 _ w1) c⟩
