/-! A NEW GROUP is taken -/
theorem lstI {p : Int → Prop} : ∀ k : Nat, (∃ b : Int, (0 ≤ b ∧ b < k) ∧ p b) → ∃ b : Int, (0 ≤ b ∧ b < k) ∧ p b ∧ ∀ c : Int, 0 ≤ c → c < b → ¬ p c
  | 0, h => by obtain ⟨b, h1, -⟩ := h; omega
  | k + 1, h => by
    by_cases q : ∃ b, (0 ≤ b ∧ b < (k : Int)) ∧ p b
    · obtain ⟨b, h1, h2⟩ := lstI k q
      exact ⟨b, by omega, h2⟩
    · obtain ⟨b, h1, h2⟩ := h
      have hb : b = k := by
        rcases Int.lt_or_le b k with z | z
        · exact absurd ⟨b, ⟨h1.1, z⟩, h2⟩ q
        · omega
      exact ⟨b, h1, h2, fun c c0 c1 pc => q ⟨c, by omega, pc⟩⟩
theorem GF.cg {n : Int} {P Q : Int → Int → Int} (g : GF n Q) (e : ∀ a b, 0 ≤ a → a < n → 0 ≤ b → b < n → P a b = Q a b) : GF n P := by
  obtain ⟨g1, g2, g3, g4, g5⟩ := g
  refine ⟨g1, fun a b a0 a1 b0 b1 => ?_, fun a a0 a1 => ?_, fun a b c a0 a1 b0 b1 c0 c1 => ?_, fun a a0 a1 => ?_⟩
  · rw [e a b a0 a1 b0 b1]; exact g2 a b a0 a1 b0 b1
  · rw [e 0 a (by omega) (by omega) a0 a1, e a 0 a0 a1 (by omega) (by omega)]; exact g3 a a0 a1
  · have r1 := g2 a b a0 a1 b0 b1
    have r2 := g2 b c b0 b1 c0 c1
    rw [e a b a0 a1 b0 b1, e b c b0 b1 c0 c1, e _ c r1.1 r1.2 c0 c1, e a _ a0 a1 r2.1 r2.2]
    exact g4 a b c a0 a1 b0 b1 c0 c1
  · obtain ⟨b, hb, h1, h2⟩ := g5 a a0 a1
    exact ⟨b, hb, by rw [e a b a0 a1 hb.1 hb.2]; exact h1, by rw [e b a hb.1 hb.2 a0 a1]; exact h2⟩
section TKD
variable {X : pm_XT} {I : pm_I}
theorem G_findBack {n a : Int} (g : GF n (gP I)) (e : I 4 0 = n) (ha : 0 ≤ a ∧ a < n) : ∃ b, f_G_findBack X a I = some (b, I) ∧ Bk n (gP I) a b := by
  have hn := g.1
  obtain ⟨b0, h0, h1, -⟩ := g.2.2.2.2 a ha.1 ha.2
  obtain ⟨b, h2, h3, h4⟩   := lstI (p := fun b => gP I a b = 0) n.toNat ⟨b0, by omega, h1⟩
  refine ⟨b, ?_, by omega, h3, h4⟩
  obtain ⟨s', g1, g2⟩ := pl_loop (fun i (_ : Unit) => f_G_findBack_2 X a i I) b (fun i _ => 0 ≤ i) (fun i s hi hp => ⟨(), by
    have hp : 0 ≤ i := hp
    show f_G_findBack_2 X a i I = f_G_findBack_2 X a (i + 1) I
    rw [e_G_findBack_2, e, if_pos (by omega), G_product (by omega) (by omega)]
    simp only [Option.bind_some]
    rw [if_neg (h4 i hp hi), if_pos (by omega)], by show (0 : Int) ≤ i + 1; have : 0 ≤ i := hp; omega⟩) (i := 0) (s := ()) h2.1 (Int.le_refl 0)
  rw [e_G_findBack]
  refine g1.trans ?_
  show f_G_findBack_2 X a b I = _
  rw [e_G_findBack_2, e, if_pos (by omega), G_product (by omega) (by omega)]
  simp only [Option.bind_some]
  rw [if_pos h3]
theorem G_findClass {n a : Int} (g : GF n (gP I)) (e : I 4 0 = n) (hb : ∀ x, 0 ≤ x → x < n → 0 ≤ I 7 x ∧ I 7 x < n) (ha : 0 ≤ a ∧ a < n) : f_G_findClass X a I = some (clsF (gP I) (I 7) a n.toNat, I) := by
  have hn := g.1
  obtain ⟨s', h1, h2⟩ := pl_loop (fun i (m : Int) => f_G_findClass_4 X a m i I) n (fun i m => 0 ≤ i ∧ m = clsF (gP I) (I 7) a i.toNat) (fun i m hi hp => by
    obtain ⟨p0, p1⟩ := hp
    have q1 := g.2.1 i a p0 hi ha.1 ha.2
    have q2 := hb i p0 hi
    refine ⟨clsF (gP I) (I 7) a (i + 1).toNat, ?_, by omega, rfl⟩
    have e1 : (i + 1).toNat = i.toNat + 1 := by omega
    have e2 : ((i.toNat : Nat) : Int) = i := by omega
    have e3 : clsF (gP I) (I 7) a (i.toNat + 1) = min m (I 6 (8 * I 6 (8 * i + a) + I 7 i)) := by
      show min _ _ = _
      rw [← p1, e2]
    rw [e_G_findClass_4, e, if_pos hi, G_product (by omega) (by omega)]
    simp only [Option.bind_some]
    rw [if_pos (by omega), G_product (by have : 0 ≤ I 6 (8 * i + a) ∧ I 6 (8 * i + a) < n := q1; omega) (by omega)]
    simp only [Option.bind_some]
    rw [if_pos (by omega), e1, e3]) (i := 0) (s := a) (by omega) ⟨by omega, rfl⟩
  rw [e_G_findClass]
  refine h1.trans ?_
  show f_G_findClass_4 X a s' n I = _
  rw [e_G_findClass_4, e, if_neg (by omega), h2.2]
theorem G_adopt {n : Int} (g : GF n (fun a b => I 5 (8 * a + b))) : ∃ J, f_G_adopt X n I = some (0, J) ∧ fr [4, 6, 7, 8, 9] I J ∧ J 4 0 = n ∧ (∀ k, 0 ≤ k → k < 64 → J 6 k = I 5 k) ∧ (∀ a, 0 ≤ a → a < n → Bk n (gP J) a (J 7 a)) ∧ (∀ a, 0 ≤ a → a < n → J 8 a = clsF (gP J) (J 7) a n.toNat) ∧ ∀ a, 0 ≤ a → a < n → J 9 a = 1 := by
  have hn := g.1
  generalize hA : pm_cp (pm_up I 4 0 n) 5 0 6 0 64 = A
  have A4 : A 4 0 = n := by rw [← hA]; simp [pm_cp, pm_up]
  have A6 : ∀ k, 0 ≤ k → k < 64 → A 6 k = I 5 k := fun k k0 k1 => by
    rw [← hA]
    unfold pm_cp
    rw [if_pos ⟨rfl, k0, by omega⟩, up_rw _ (by decide), show 0 + (k - 0) = k by omega]
  have fA : fr [4, 6] I A := fun r hr => by
    simp only [List.mem_cons, List.not_mem_nil, or_false] at hr
    funext k
    rw [← hA]
    unfold pm_cp
    rw [if_neg (fun z => by omega), up_rw _ (by omega)]
  have gA : GF n (gP A) := g.cg (fun a b a0 a1 b0 b1 => A6 _ (by omega) (by omega))
  obtain ⟨J, j1, j2, j3, j4, j5⟩ := pl_loop (fun i (J : pm_I) => f_G_adopt_25 X n i J) n (fun i J => 0 ≤ i ∧ fr [7, 9] A J ∧ (∀ a, 0 ≤ a → a < i → Bk n (gP A) a (J 7 a)) ∧ ∀ a, 0 ≤ a → a < i → J 9 a = 1) (fun i J hi hp => by
    obtain ⟨p0, p1, p2, p3⟩ := hp
    generalize hK : pm_up J 9 i 1 = K
    have fK : fr [7, 9] A K := by rw [← hK]; exact p1.up (by decide)
    have K6 : gP K = gP A := by unfold gP; rw [fK 6 (by decide)]
    obtain ⟨b, b1, b2⟩ := G_findBack (X := X) (I := K) (n := n) (a := i) (by rw [K6]; exact gA) (by rw [fK 4 (by decide)]; exact A4) ⟨p0, hi⟩
    rw [K6] at b2
    show ∃ s', f_G_adopt_25 X n i J = f_G_adopt_25 X n (i + 1) s' ∧ _
    rw [e_G_adopt_25, if_pos hi, if_pos (by omega), hK, b1]
    simp only [Option.bind_some]
    rw [if_pos (by omega), if_pos (by omega)]
    refine ⟨_, rfl, by omega, fK.up (by decide), fun a a0 a1 => ?_, fun a a0 a1 => ?_⟩
    · rw [up_at]
      by_cases y : a = i
      · rw [if_pos y, y]; exact b2
      · rw [if_neg y, ← hK, up_rw _ (by decide)]; exact p2 a a0 (by omega)
    · rw [up_rw _ (by decide), ← hK, up_at]
      by_cases y : a = i
      · rw [if_pos y]
      · rw [if_neg y]; exact p3 a a0 (by omega)) (i := 0) (s := A) (by omega) ⟨Int.le_refl 0, fr.rf _ _, fun a a0 a1 => by omega, fun a a0 a1 => by omega⟩
  have J6 : gP J = gP A := by unfold gP; rw [j3 6 (by decide)]
  obtain ⟨K, k1, k2, k3, k4⟩ := pl_loop (fun i (K : pm_I) => f_G_adopt_56 X n i K) n (fun i K => 0 ≤ i ∧ fr [8] J K ∧ ∀ a, 0 ≤ a → a < i → K 8 a = clsF (gP J) (J 7) a n.toNat) (fun i K hi hp => by
    obtain ⟨p0, p1, p2⟩ := hp
    have K6 : gP K = gP J := by unfold gP; rw [p1 6 (by decide)]
    have K7 : K 7 = J 7 := p1 7 (by decide)
    have c := G_findClass (X := X) (I := K) (n := n) (a := i) (by rw [K6, J6]; exact gA) (by rw [p1 4 (by decide), j3 4 (by decide)]; exact A4) (fun x x0 x1 => by rw [K7]; exact (j4 x x0 x1).1) ⟨p0, hi⟩
    rw [K6, K7] at c
    show ∃ s', f_G_adopt_56 X n i K = f_G_adopt_56 X n (i + 1) s' ∧ _
    rw [e_G_adopt_56, if_pos hi, c]
    simp only [Option.bind_some]
    rw [if_pos (by omega), if_pos (by omega)]
    refine ⟨_, rfl, by omega, p1.up (by decide), fun a a0 a1 => ?_⟩
    rw [up_at]
    by_cases y : a = i
    · rw [if_pos y, y]
    · rw [if_neg y]; exact p2 a a0 (by omega)) (i := 0) (s := J) (by omega) ⟨Int.le_refl 0, fr.rf _ _, fun a a0 a1 => by omega⟩
  have K6 : gP K = gP J := by unfold gP; rw [k3 6 (by decide)]
  have K7 : K 7 = J 7 := k3 7 (by decide)
  refine ⟨K, ?_, ((fA.mono (by decide)).tr (j3.mono (by decide))).tr (k3.mono (by decide)), ?_, fun k k0 k1 => ?_, fun a a0 a1 => ?_, fun a a0 a1 => ?_, fun a a0 a1 => ?_⟩
  · rw [e_G_adopt, hA]
    refine j1.trans ?_
    show f_G_adopt_25 X n n J = _
    rw [e_G_adopt_25, if_neg (by omega)]
    refine k1.trans ?_
    show f_G_adopt_56 X n n K = _
    rw [e_G_adopt_56, if_neg (by omega)]
  · rw [k3 4 (by decide), j3 4 (by decide)]; exact A4
  · rw [k3 6 (by decide), j3 6 (by decide)]; exact A6 k k0 k1
  · rw [K6, K7, J6]; exact j4 a a0 a1
  · rw [K6, K7]; exact k4 a a0 a1
  · rw [k3 9 (by decide)]; exact j5 a a0 a1
theorem T_take {n : Int} (g : GF n (fun a b => I 5 (8 * a + b))) (l : 0 ≤ I 10 1 ∧ I 10 1 ≤ 10) : ∃ J, f_T_takeDraft X n I = some (n, J) ∧ fr [4, 6, 7, 8, 9, 13, 43] I J ∧ J 4 0 = n ∧ (∀ k, 0 ≤ k → k < 64 → J 6 k = I 5 k) ∧ (∀ a, 0 ≤ a → a < n → Bk n (gP J) a (J 7 a)) ∧ (∀ a, 0 ≤ a → a < n → J 8 a = clsF (gP J) (J 7) a n.toNat) ∧ (∀ a, 0 ≤ a → a < n → J 9 a = 1) ∧ (∀ k, 0 ≤ k → J 13 k = if k < I 10 1 then 0 else I 13 k) ∧ J 43 0 = 0 ∧ J 43 1 = I 43 1 := by
  obtain ⟨A, a1, a2, a3, a4, a5, a6, a7⟩ := G_adopt (X := X) g
  obtain ⟨B, b1, b2, b3, b4⟩ := pl_loop (fun i (J : pm_I) => f_B_clearTurns_2 X i J) (I 10 1) (fun i J => 0 ≤ i ∧ fr [13] A J ∧ ∀ k, 0 ≤ k → J 13 k = if k < i then 0 else I 13 k) (fun i J hi hp => by
    obtain ⟨p0, p1, p2⟩ := hp
    show ∃ s', f_B_clearTurns_2 X i J = f_B_clearTurns_2 X (i + 1) s' ∧ _
    rw [e_B_clearTurns_2, p1 10 (by decide), a2 10 (by decide), if_pos hi, if_pos (by omega), if_pos (by omega)]
    refine ⟨_, rfl, by omega, p1.up (by decide), fun k k0 => ?_⟩
    rw [up_at, p2 k k0]
    by_cases y : k = i
    · rw [if_pos y, if_pos (by omega)]
    · rw [if_neg y]
      by_cases z : k < i
      · rw [if_pos z, if_pos (by omega)]
      · rw [if_neg z, if_neg (by omega)]) (i := 0) (s := A) l.1 ⟨Int.le_refl 0, fr.rf _ _, fun k k0 => by rw [if_neg (by omega), a2 13 (by decide)]⟩
  have fB : fr [4, 6, 7, 8, 9, 13, 43] I B := (a2.mono (by decide)).tr (b3.mono (by decide))
  refine ⟨pm_up B 43 0 0, ?_, fB.up (by decide), ?_, fun k k0 k1 => ?_, fun a a0 a1' => ?_, fun a a0 a1' => ?_, fun a a0 a1' => ?_, fun k k0 => ?_, ?_, ?_⟩
  · rw [e_T_takeDraft, a1]
    simp only [Option.bind_some]
    have : f_B_clearTurns X A = some (0, B) := by
      rw [e_B_clearTurns]
      refine b1.trans ?_
      show f_B_clearTurns_2 X (I 10 1) B = _
      rw [e_B_clearTurns_2, b3 10 (by decide), a2 10 (by decide), if_neg (by omega)]
    rw [this]
    simp only [Option.bind_some]
    rw [e_A_forget]
    rfl
  · rw [up_rw _ (by decide), b3 4 (by decide)]; exact a3
  · rw [up_rw _ (by decide), b3 6 (by decide)]; exact a4 k k0 k1
  · unfold gP
    rw [up_rw _ (by decide), up_rw _ (by decide), b3 6 (by decide), b3 7 (by decide)]; exact a5 a a0 a1'
  · unfold gP
    rw [up_rw _ (by decide), up_rw _ (by decide), up_rw _ (by decide), b3 6 (by decide), b3 7 (by decide), b3 8 (by decide)]; exact a6 a a0 a1'
  · rw [up_rw _ (by decide), b3 9 (by decide)]; exact a7 a a0 a1'
  · rw [up_rw _ (by decide)]; exact b4 k k0
  · rw [up_eq]
  · rw [up_ne _ (by decide), b3 43 (by decide), a2 43 (by decide)]
theorem M_begin {n : Int} : ∃ J, f_M_begin X n I = some (0, J) ∧ fr [77, 79, 82] I J ∧ J 77 0 = n ∧ J 77 14 = 0 ∧ (∀ j, j ≠ 0 → j ≠ 14 → J 77 j = I 77 j) ∧ (∀ k, 0 ≤ k → k < 10 → J 82 k = 0) ∧ ∀ k, 0 ≤ k → k < 8 → J 79 k = 1 := by
  generalize hA : pm_up (pm_up I 77 0 n) 77 14 0 = A
  have fA : fr [77] I A := by rw [← hA]; exact ((fr.rf [77] I).up (by decide)).up (by decide)
  have A77 : ∀ j, A 77 j = if j = 14 then 0 else if j = 0 then n else I 77 j := fun j => by rw [← hA, up_at, up_at]
  obtain ⟨B, b1, b2, b3, b4⟩ := pl_loop (fun i (J : pm_I) => f_M_begin_12 X i J) 10 (fun i J => 0 ≤ i ∧ fr [82] A J ∧ ∀ k, 0 ≤ k → k < i → J 82 k = 0) (fun i J hi hp => by
    obtain ⟨p0, p1, p2⟩ := hp
    show ∃ s', f_M_begin_12 X i J = f_M_begin_12 X (i + 1) s' ∧ _
    rw [e_M_begin_12, if_pos hi, if_pos (by omega), if_pos (by omega)]
    refine ⟨_, rfl, by omega, p1.up (by decide), fun k k0 k1 => ?_⟩
    rw [up_at]
    by_cases y : k = i
    · rw [if_pos y]
    · rw [if_neg y]; exact p2 k k0 (by omega)) (i := 0) (s := A) (by omega) ⟨Int.le_refl 0, fr.rf _ _, fun k k0 k1 => by omega⟩
  obtain ⟨C, c1, c2, c3, c4⟩ := pl_loop (fun i (J : pm_I) => f_M_begin_33 X i J) 8 (fun i J => 0 ≤ i ∧ fr [79] B J ∧ ∀ k, 0 ≤ k → k < i → J 79 k = 1) (fun i J hi hp => by
    obtain ⟨p0, p1, p2⟩ := hp
    show ∃ s', f_M_begin_33 X i J = f_M_begin_33 X (i + 1) s' ∧ _
    rw [e_M_begin_33, if_pos hi, if_pos (by omega), if_pos (by omega)]
    refine ⟨_, rfl, by omega, p1.up (by decide), fun k k0 k1 => ?_⟩
    rw [up_at]
    by_cases y : k = i
    · rw [if_pos y]
    · rw [if_neg y]; exact p2 k k0 (by omega)) (i := 0) (s := B) (by omega) ⟨Int.le_refl 0, fr.rf _ _, fun k k0 k1 => by omega⟩
  have C77 : C 77 = A 77 := by rw [c3 77 (by decide), b3 77 (by decide)]
  refine ⟨C, ?_, ((fA.mono (by decide)).tr (b3.mono (by decide))).tr (c3.mono (by decide)), ?_, ?_, fun j j0 j1 => ?_, fun k k0 k1 => ?_, c4⟩
  · rw [e_M_begin, hA]
    refine b1.trans ?_
    show f_M_begin_12 X 10 B = _
    rw [e_M_begin_12, if_neg (by omega)]
    refine c1.trans ?_
    show f_M_begin_33 X 8 C = _
    rw [e_M_begin_33, if_neg (by omega)]
  · rw [C77, A77, if_neg (by decide), if_pos rfl]
  · rw [C77, A77, if_pos rfl]
  · rw [C77, A77, if_neg j1, if_neg j0]
  · rw [c3 82 (by decide)]; exact b4 k k0 k1
/-- both take a new group: what is left -/
theorem grp_end (h : Rl I) {n : Int} {I1 : pm_I} (f1 : fr scr I I1) (g : GF n (fun a b => I1 5 (8 * a + b))) : ∃ J, f_T_takeDraft X n I1 = some (n, J) ∧ fr [4, 6, 7, 8, 9, 13, 43] I1 J ∧ ∀ J2, fr (78 :: scr) J J2 → (∀ a b, 0 ≤ a → a < n → 0 ≤ b → b < n → J2 78 (8 * a + b) = I1 5 (8 * a + b)) → ∃ M, f_M_begin X n J2 = some (0, M) ∧ Rl M := by
  have hn := g.1
  have R1 := h.scr f1
  obtain ⟨hG, hB, hT, hW, hS, hV⟩ := id R1
  obtain ⟨J, j1, j2, j3, j4, j5, j6, j7, j8, j9, j10⟩ := T_take (X := X) g ⟨hB.2.1.1, hB.2.1.2.1⟩
  refine ⟨J, j1, j2, fun J2 f2 e2 => ?_⟩
  obtain ⟨M, m1, m2, m3, m4, m5, m6, m7⟩ := M_begin (X := X) (I := J2) (n := n)
  have F : fr ([4, 6, 7, 8, 9, 13, 43, 77, 78, 79, 82] ++ scr) I1 M := ((j2.mono (by decide)).tr (f2.mono (by decide))).tr (m2.mono (by decide))
  have mS : ∀ r, r ∈ ([77, 79, 82] : List Nat) → r ∈ ([77, 78, 79, 82] ++ scr) := by decide
  have fS : ∀ r, r ∈ (78 :: scr : List Nat) → r ∈ ([77, 78, 79, 82] ++ scr) := by decide
  have JM : ∀ r, r ∉ ([77, 78, 79, 82] ++ scr) → M r = J r := fun r hr => (m2 r (fun z => hr (mS r z))).trans (f2 r (fun z => hr (fS r z)))
  have M4 : M 4 0 = n := by rw [JM 4 (by decide)]; exact j3
  have M6 : gP M = gP J := by unfold gP; rw [JM 6 (by decide)]
  have M7 : M 7 = J 7 := JM 7 (by decide)
  have M77 : ∀ j, j ≠ 0 → j ≠ 14 → M 77 j = I1 77 j := fun j a b => by rw [m5 j a b, f2 77 (by decide), j2 77 (by decide)]
  have sn : ∀ r, (19 ≤ r ∧ r < 43) ∨ (45 ≤ r ∧ r < 53) ∨ (54 ≤ r ∧ r < 62) → M r = I1 r := fun r hr => F r (fun z => by
    rcases List.mem_append.mp z with z | z
    · simp only [List.mem_cons, List.not_mem_nil, or_false] at z
      omega
    · exact scr_n hr z)
  refine ⟨M, m1, ⟨?_, m3.trans M4.symm, fun a b a0 a1 b0 b1 => ?_, fun a a0 a1 => ?_, fun a a0 a1 => ?_⟩, ?_, ⟨fun k k0 k1 => ?_, ⟨?_, ?_, ?_⟩, fun i k i0 i1 => ?_⟩, ?_, ?_, fun a a0 a1 => ?_⟩
  · rw [M4, M6]
    exact g.cg (fun a b a0 a1 b0 b1 => j4 _ (by omega) (by omega))
  · rw [M4] at a1 b1
    rw [m2 78 (by decide), e2 a b a0 a1 b0 b1, JM 6 (by decide), j4 _ (by omega) (by omega)]
  · rw [M4] at a1 ⊢
    rw [M6, M7]
    exact j5 a a0 a1
  · rw [M4] at a1 ⊢
    rw [M6, M7, JM 8 (by decide)]
    exact j6 a a0 a1
  · exact hB.cg (by rw [F 10 (by decide)]) (by rw [F 10 (by decide)]) (by rw [F 10 (by decide)]) (M77 3 (by decide) (by decide)) (M77 4 (by decide) (by decide)) (F 11 (by decide)) (F 12 (by decide)) (F 14 (by decide)) (F 15 (by decide)) (F 80 (by decide)) (F 81 (by decide))
  · have z : M 13 k = 0 := by
      rw [JM 13 (by decide), j8 k k0]
      by_cases y : k < I1 10 1
      · rw [if_pos y]
      · rw [if_neg y]; exact (hT.1 k k0 k1).2.2 (by omega)
    rw [m6 k k0 k1, z, M4]
    exact ⟨rfl, by omega, fun _ => rfl⟩
  · rw [JM 43 (by decide), j9]; omega
  · rw [m4, JM 43 (by decide), j9]
  · rw [JM 43 (by decide), j10]; exact hT.2.1.2.2
  · rw [JM 43 (by decide), j9] at i1
    omega
  · exact hW.cg (by rw [F 3 (by decide)]) (M77 8 (by decide) (by decide)) (by rw [F 10 (by decide)]) (by rw [F 10 (by decide)]) (F 11 (by decide)) (F 12 (by decide)) (fun r a b => sn r (by omega)) (F 83 (by decide)) (F 84 (by decide)) (F 85 (by decide)) (F 86 (by decide)) (F 87 (by decide))
  · exact hS.cg (fun r a b => sn r (by omega)) (F 89 (by decide)) (F 90 (by decide)) (F 91 (by decide))
  · rw [M4] at a1
    rw [m7 a a0 (by omega), JM 9 (by decide), j7 a a0 a1]
    omega
end TKD
