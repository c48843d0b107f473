/-! How the model's table is made: the loops -/
def ent (S x : Nat) : Nat := (S >>> (13 * x)) % 2 ^ 13
theorem ent_tb {S x i : Nat} : (ent S x).testBit i = (decide (i < 13) && S.testBit (13 * x + i)) := by
  unfold ent
  rw [Nat.testBit_mod_two_pow, Nat.testBit_shiftRight]
theorem ent_or {S x0 r x : Nat} (hr : r < 13) : ent (S ||| 2 ^ (13 * x0 + r)) x = if x = x0 then ent S x ||| 2 ^ r else ent S x := by
  refine Nat.eq_of_testBit_eq fun i => ?_
  by_cases hi : i < 13
  · by_cases hx : x = x0
    · rw [if_pos hx, Nat.testBit_or, ent_tb, ent_tb, Nat.testBit_or, decide_eq_true hi, Bool.true_and, Bool.true_and, Bool.eq_iff_iff, Bool.or_eq_true, Bool.or_eq_true, two_tb, two_tb]
      constructor
      · rintro (h | h)
        · exact Or.inl h
        · exact Or.inr (by omega)
      · rintro (h | h)
        · exact Or.inl h
        · exact Or.inr (by omega)
    · rw [if_neg hx, ent_tb, ent_tb, Nat.testBit_or, decide_eq_true hi, Bool.true_and, Bool.true_and, Bool.eq_iff_iff, Bool.or_eq_true, two_tb]
      constructor
      · rintro (h | h)
        · exact h
        · exfalso; omega
      · exact Or.inl
  · have e : ∀ T, (ent T x).testBit i = false := fun T => by rw [ent_tb, decide_eq_false hi]; rfl
    rw [e]
    split
    · rw [Nat.testBit_or, e]
      cases h : (2 ^ r).testBit i with
      | false => rfl
      | true =>
        have := two_tb.mp h
        omega
    · rw [e]
theorem ent_0 {x : Nat} : ent 0 x = 0 := by
  refine Nat.eq_of_testBit_eq fun i => ?_
  rw [ent_tb, Nat.zero_testBit, Nat.zero_testBit, Bool.and_false]
def mF3 (S a b : Nat) : Nat → Nat
  | 0 => S
  | c + 1 => mF3 S a b c ||| 2 ^ (13 * (13 * RNm a b + RNm b c) + RNm a c)
def mF2 (S a : Nat) : Nat → Nat
  | 0 => S
  | b + 1 => mF3 (mF2 S a b) a b 15
def mF1 : Nat → Nat
  | 0 => 0
  | a + 1 => mF2 (mF1 a) a 15
def mFS : Nat := 11532500863595108661388537645610545565999198224314442701894555880523860162744410459226021931844887418815160608858319592843697687662021021360276084242642007018883276405889114085177290533134741121609665130619049270358408784775713534961648146554646073031952451716479155781349912614651353520058769592308218169059668756793856247183543877569728520811842172405323072743852736918201846976435705774359245949326552468443054851365429248925319115965374390638582252021137861798345743841250241029063026847369029120329055180985801802468671542335529534542507262816162038587225981581613032254467221080995861830949674618842566825166040007874987850210060833382311944241283105562625
theorem mF1_15 : mF1 15 = mFS := by decide +kernel
theorem ent_TT : ∀ x, x < 169 → ent mFS x = TT (x / 13) (x % 13) := by decide +kernel
/-- the table so far -/
def MTB (I0 : SI) (S : Nat) (I : SI) : Prop := (∀ x, x < 169 → I 40 0 x = nI (ent S x)) ∧ ∀ a b, ¬ (a = 40 ∧ b = 0) → I a b = I0 a b
set_option maxRecDepth 10000 in
theorem i_table (I0 : SI) (J : SJ) (h1 : ∀ r, r < 13 → I0 38 0 r = nI (bgT r)) (h2 : ∀ r, r < 13 → I0 39 0 r = nI (enT r)) (h3 : ∀ x, x < 169 → I0 40 0 x = 0) (d : Nat) (hd : 2 < d) (Q : Option AV → ST → Prop) (hQ : ∀ I, MC I → (∀ a b, ¬ (a = 40 ∧ b = 0) → I a b = I0 a b) → Q none (S0 I J)) : Sat none MX9_init d 117 Q 323 [some (vr 29 0), some (vi (nI 0)), none, none] [] (S0 I0 J) := by
  have rel : ∀ (I : SI) (S : Nat), MTB I0 S I → ∀ a b, a < 15 → b < 15 → Tri 2 YX9_relationOf 117 [vr 29 0, vi (nI a), vi (nI b)] (S0 I J) (fun r σ => σ = S0 I J ∧ r = some (vi (nI (RNm a b)))) := fun I S h a b ha hb => by
    rw [← (RNm_at a ha b hb).1]
    exact m_relationOf I J (nI a) (nI b) (fun r hr => by rw [h.2 38 0 (by omega)]; exact h1 r hr) (fun r hr => by rw [h.2 39 0 (by omega)]; exact h2 r hr) 2 (by decide)
  have lp1 : ∀ (m a : Nat) (I : SI), a + m = 15 → MTB I0 (mF1 a) I → Sat none MX9_init d 117 Q 323 [some (vr 29 0), some (vi (nI a)), none, none] [] (S0 I J) := by
    intro m
    induction m with
    | zero =>
      intro a I hm h
      have e : a = 15 := by omega
      subst e
      refine Sat.of k_X9_init [323, 331, 339] 60 ?_
      refine ⟨fun _ => ⟨rfl, rfl, hQ I ⟨fun r hr => by rw [h.2 38 0 (by omega)]; exact h1 r hr, fun r hr => by rw [h.2 39 0 (by omega)]; exact h2 r hr, fun k hk => ?_⟩ h.2⟩, fun c => absurd (nI_le (a := 15) (b := 15) (by omega) (by omega)) c⟩
      rw [h.1 k hk, mF1_15, ent_TT k hk]
    | succ m ih =>
      intro a I hm h
      have lp2 : ∀ (n b : Nat) (I : SI), b + n = 15 → MTB I0 (mF2 (mF1 a) a b) I → Sat none MX9_init d 117 Q 331 [some (vr 29 0), some (vi (nI a)), some (vi (nI b)), none] [] (S0 I J) := by
        intro n
        induction n with
        | zero =>
          intro b I hn h
          have e : b = 15 := by omega
          subst e
          refine Sat.of k_X9_init [323, 331, 339] 60 ?_
          refine ⟨fun _ => (ih (a + 1) I (by omega) h).lw ⟨rfl, by rw [← nI_1 a], trivial⟩ rfl, fun c => absurd (nI_le (a := 15) (b := 15) (by omega) (by omega)) c⟩
        | succ n ihn =>
          intro b I hn h
          have lp3 : ∀ (z c : Nat) (I : SI), c + z = 15 → MTB I0 (mF3 (mF2 (mF1 a) a b) a b c) I → Sat none MX9_init d 117 Q 339 [some (vr 29 0), some (vi (nI a)), some (vi (nI b)), some (vi (nI c))] [] (S0 I J) := by
            intro z
            induction z with
            | zero =>
              intro c I hz h
              have e : c = 15 := by omega
              subst e
              refine Sat.of k_X9_init [323, 331, 339] 60 ?_
              refine ⟨fun _ => (ihn (b + 1) I (by omega) h).lw ⟨rfl, rfl, by rw [← nI_1 b], trivial⟩ rfl, fun c => absurd (nI_le (a := 15) (b := 15) (by omega) (by omega)) c⟩
            | succ z ihz =>
              intro c I hz h
              have w1 := (RNm_at a (by omega) b (by omega)).2
              have w2 := (RNm_at b (by omega) c (by omega)).2
              have w3 := (RNm_at a (by omega) c (by omega)).2
              have ix : (13 : Int32) * nI (RNm a b) + nI (RNm b c) = nI (13 * RNm a b + RNm b c) := by rw [show (13 : Int32) = nI 13 from rfl, pk_mul, nI_add]
              have sh : (1 : Int32) <<< (nI (RNm a c) &&& 31) = nI (2 ^ RNm a c) := nx_shl (by omega)
              refine Sat.of k_X9_init [323, 331, 339] 60 ?_
              refine ⟨fun c => absurd ((nI_leI (a := 15) (by omega) (by omega)).mp c) (by omega), fun _ => ⟨2, 117, hd, Nat.le_refl _, (rel I _ h a b (by omega) (by omega)).mono ?_⟩⟩
              rintro r σ ⟨rfl, rfl⟩
              refine ⟨2, 117, hd, Nat.le_refl _, (rel I _ h b c (by omega) (by omega)).mono ?_⟩
              rintro r σ ⟨rfl, rfl⟩
              refine ⟨?_, 2, 117, hd, Nat.le_refl _, (rel I _ h a c (by omega) (by omega)).mono ?_⟩
              · show vp_in (13 * nI (RNm a b) + nI (RNm b c)) 169
                rw [ix]
                exact vp_in_nI (by omega) (by decide)
              · rintro r σ ⟨rfl, rfl⟩
                refine ⟨?_, ?_⟩
                · show vp_in (13 * nI (RNm a b) + nI (RNm b c)) 169
                  rw [ix]
                  exact vp_in_nI (by omega) (by decide)
                · refine (ihz (c + 1) (uI I 40 0 (13 * RNm a b + RNm b c) (nI (ent (mF3 (mF2 (mF1 a) a b) a b c) (13 * RNm a b + RNm b c) ||| 2 ^ RNm a c))) (by omega) ⟨fun x hx => ?_, fun a1 b1 q => by rw [uI_ne2 q]; exact h.2 a1 b1 q⟩).to (by rw [← nI_1 c]; rfl) ?_
                  · show _ = nI (ent (mF3 (mF2 (mF1 a) a b) a b c ||| 2 ^ (13 * (13 * RNm a b + RNm b c) + RNm a c)) x)
                    rw [ent_or w3]
                    by_cases e : x = 13 * RNm a b + RNm b c
                    · rw [if_pos e, e, uI_at]
                    · rw [if_neg e, uI_j e]
                      exact h.1 x hx
                  · show (uI I 40 0 (13 * nI (RNm a b) + nI (RNm b c)).toNatClampNeg (I 40 0 (13 * nI (RNm a b) + nI (RNm b c)).toNatClampNeg ||| ((1 : Int32) <<< (nI (RNm a c) &&& 31))), J, 117, aT) = _
                    rw [ix, nI_clamp (by omega), sh, h.1 _ (by omega), nx_or]
          refine Sat.of k_X9_init [323, 339] 60 ?_
          refine ⟨fun c => absurd ((nI_leI (a := 15) (by omega) (by omega)).mp c) (by omega), fun _ => (lp3 15 0 I (by omega) h).to rfl rfl⟩
      refine Sat.of k_X9_init [331] 60 ?_
      refine ⟨fun c => absurd ((nI_leI (a := 15) (by omega) (by omega)).mp c) (by omega), fun _ => (lp2 15 0 I (by omega) h).to rfl rfl⟩
  refine lp1 15 0 I0 (by omega) ⟨fun x hx => ?_, fun _ _ _ => rfl⟩
  show I0 40 0 x = nI (ent 0 x)
  rw [h3 x hx, ent_0]
  rfl
