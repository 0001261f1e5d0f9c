/-! THE WEIGHT of a filling: no product of worths leaves its word -/
/-- the product of the worths that go round the first k walks, the turns lying in row r -/
noncomputable def wgp (I : pm_I) (r : Nat) : Nat → Int
  | 0 => 1
  | k + 1 => wgp I r k * @ite _ (wgh I k) (Classical.propDecidable _) (I 9 (wtn I r k)) 1
theorem w64_id {x : Int} (h : -9223372036854775808 ≤ x ∧ x < 9223372036854775808) : pm_w64 x = x := by
  unfold pm_w64
  rw [Int.bmod_eq_of_le] <;> omega
theorem mul_b {a b x y : Int} (ha : 0 ≤ a ∧ a ≤ x) (hb : 0 ≤ b ∧ b ≤ y) : 0 ≤ a * b ∧ a * b ≤ x * y :=
  ⟨Int.mul_nonneg ha.1 hb.1, Int.mul_le_mul ha.2 hb.2 hb.1 (by omega)⟩
section WGT
variable {X : pm_XT} {I : pm_I}
theorem wgp_r (hG : RlG I) (hV : RlV I) (hW : RlW I) {r : Nat} (ht : ∀ k, 0 ≤ k → k < I 10 1 → 0 ≤ I r k ∧ I r k < I 4 0) : ∀ {k : Nat}, (k : Int) ≤ I 3 3 → 0 ≤ wgp I r k ∧ wgp I r k ≤ 9 ^ k
  | 0, _ => ⟨by show (0 : Int) ≤ 1; omega, by show (1 : Int) ≤ 1; omega⟩
  | k + 1, h => by
    have ih := wgp_r hG hV hW ht (k := k) (by omega)
    have q := wtn_r hG (hW.2 k (by omega) (by omega)) ht
    have v := hV _ q.1 q.2
    show 0 ≤ wgp I r k * @ite _ (wgh I k) (Classical.propDecidable _) (I 9 (wtn I r k)) 1 ∧ wgp I r k * @ite _ (wgh I k) (Classical.propDecidable _) (I 9 (wtn I r k)) 1 ≤ 9 ^ k * 9
    by_cases z : wgh I k
    · rw [if_pos z]; exact mul_b ih v.2
    · rw [if_neg z]; exact mul_b ih (by omega)
theorem wgp_b (hG : RlG I) (hV : RlV I) (hW : RlW I) {r : Nat} (ht : ∀ k, 0 ≤ k → k < I 10 1 → 0 ≤ I r k ∧ I r k < I 4 0) {k : Nat} (hk : (k : Int) ≤ I 3 3) : 0 ≤ wgp I r k ∧ wgp I r k ≤ 43046721 := by
  have q := wgp_r hG hV hW ht hk
  have w := hW.1
  refine ⟨q.1, Int.le_trans q.2 ?_⟩
  have : k = 0 ∨ k = 1 ∨ k = 2 ∨ k = 3 ∨ k = 4 ∨ k = 5 ∨ k = 6 ∨ k = 7 ∨ k = 8 := by omega
  rcases this with z | z | z | z | z | z | z | z | z <;> subst z <;> decide
theorem wgp_congr (hG : RlG I) (hW : RlW I) {J : pm_I} (e4 : J 4 0 = I 4 0) (e6 : J 6 = I 6) (e7 : J 7 = I 7) (e9 : J 9 = I 9) (hw : ∀ w, 0 ≤ w → w < I 3 3 → J (wk w + 1) = I (wk w + 1) ∧ J (wk w + 2) = I (wk w + 2)) (e11 : J 11 = I 11) (e12 : J 12 = I 12) (e83 : J 83 = I 83) (e84 : J 84 = I 84) (e85 : J 85 = I 85) (e86 : J 86 = I 86) (e87 : J 87 = I 87) {r q : Nat} (ht : ∀ k, 0 ≤ k → k < I 10 1 → J q k = I r k ∧ 0 ≤ I r k ∧ I r k < I 4 0) : ∀ {k : Nat}, (k : Int) ≤ I 3 3 → wgp J q k = wgp I r k
  | 0, _ => rfl
  | k + 1, h => by
    have ih := wgp_congr hG hW e4 e6 e7 e9 hw e11 e12 e83 e84 e85 e86 e87 ht (k := k) (by omega)
    have h1 := hw k (by omega) (by omega)
    have e := wtn_congr hG e4 e6 e7 (hW.2 k (by omega) (by omega)) (by rw [e84]) h1.1 h1.2 ht
    have ew : wgh J k ↔ wgh I k := by
      unfold wgh cld
      rw [endv.cg e11 e12 e83 e84 e85 e86, e83, e84, e87]
    show wgp J q k * @ite _ (wgh J k) (Classical.propDecidable _) (J 9 (wtn J q k)) 1 = wgp I r k * @ite _ (wgh I k) (Classical.propDecidable _) (I 9 (wtn I r k)) 1
    rw [ih, e, e9]
    by_cases z : wgh I k
    · rw [if_pos z, if_pos (ew.mpr z)]
    · rw [if_neg z, if_neg (fun y => z (ew.mp y))]
theorem T_weight (h : Rl I) : f_T_weight X I = some (wgp I 13 (I 3 3).toNat, I) := by
  obtain ⟨hG, hB, hT, hW, hS, hV⟩ := id h
  have wb := hW.1
  have l := hB.2.1
  have hn := hG.n
  have ht := hT.t13 hB
  obtain ⟨w, g1, g2, g3⟩ := pl_loop (fun i (w : Int) => f_T_weight_4 X w i I) (I 3 3) (fun i w => 0 ≤ i ∧ w = wgp I 13 i.toNat) (fun i w hi hp => by
    obtain ⟨p0, p1⟩ := hp
    have w8 : 0 ≤ i ∧ i < 8 := by omega
    have hw1 := hW.2 i p0 hi
    obtain ⟨c1, c2, -⟩ := c_wk w8
    have hq := W_weighs (X := X) w8 hw1
    have tW := W_turnWith (X := X) hG w8 hw1 l.2.1 (r := 13) ⟨rfl, rfl⟩ ht
    have q := wtn_r hG hw1 ht
    have b := wgp_b hG hV hW ht (k := (i + 1).toNat) (by omega)
    have e : wgp I 13 (i + 1).toNat = wgp I 13 i.toNat * @ite _ (wgh I i) (Classical.propDecidable _) (I 9 (wtn I 13 i)) 1 := by
      rw [show (i + 1).toNat = i.toNat + 1 by omega]
      show wgp I 13 i.toNat * @ite _ (wgh I i.toNat) (Classical.propDecidable _) (I 9 (wtn I 13 i.toNat)) 1 = _
      rw [show ((i.toNat : Nat) : Int) = i by omega]
    show ∃ s', f_T_weight_4 X w i I = f_T_weight_4 X s' (i + 1) I ∧ _
    rw [e_T_weight_4, if_pos hi, if_pos w8, c1, c2]
    simp only [show Nat.beq 5 5 = true from rfl, cond_true]
    by_cases z : wgh I i
    · rw [hq.1 z]
      simp only [Option.bind_some]
      rw [if_neg (by decide), if_pos w8, tW]
      simp only [Option.bind_some]
      rw [if_pos (by omega), if_pos (by omega)]
      rw [if_pos z] at e
      refine ⟨_, rfl, by omega, ?_⟩
      rw [p1, ← e, w64_id (by omega)]
    · rw [hq.2 z]
      simp only [Option.bind_some]
      rw [if_pos trivial, if_pos (by omega)]
      rw [if_neg z, Int.mul_one] at e
      exact ⟨_, rfl, by omega, by rw [p1, e]⟩) (i := 0) (s := 1) (by omega) ⟨Int.le_refl 0, rfl⟩
  rw [e_T_weight]
  refine g1.trans ?_
  show f_T_weight_4 X w (I 3 3) I = _
  rw [e_T_weight_4, if_neg (by omega), g3]
theorem M_weightOf (h : Rl I) (hb : ∀ a, 0 ≤ a → a < I 4 0 → I 94 a = I 7 a) (ht : ∀ k, 0 ≤ k → k < I 10 1 → 0 ≤ I 93 k ∧ I 93 k < I 4 0) : f_M_weightOf X I = some (wgp I 93 (I 3 3).toNat, I) := by
  obtain ⟨hG, hB, hT, hW, hS, hV⟩ := id h
  have wb := hW.1
  have l := hB.2.1
  have hn := hG.n
  obtain ⟨w, g1, g2, g3⟩ := pl_loop (fun i (w : Int) => f_M_weightOf_4 X w i I) (I 3 3) (fun i w => 0 ≤ i ∧ w = wgp I 93 i.toNat) (fun i w hi hp => by
    obtain ⟨p0, p1⟩ := hp
    have w8 : 0 ≤ i ∧ i < 8 := by omega
    have hw1 := hW.2 i p0 hi
    have hq := M_isClosed (X := X) hB w8 hw1
    have tW := M_turnOf (X := X) hG w8 hw1 l.2.1 hb ht
    have q := wtn_r hG hw1 ht
    have v := hV _ q.1 q.2
    have b := wgp_b hG hV hW ht (k := (i + 1).toNat) (by omega)
    have b0 := wgp_b hG hV hW ht (k := i.toNat) (by omega)
    have e : wgp I 93 (i + 1).toNat = wgp I 93 i.toNat * @ite _ (wgh I i) (Classical.propDecidable _) (I 9 (wtn I 93 i)) 1 := by
      rw [show (i + 1).toNat = i.toNat + 1 by omega]
      show wgp I 93 i.toNat * @ite _ (wgh I i.toNat) (Classical.propDecidable _) (I 9 (wtn I 93 i.toNat)) 1 = _
      rw [show ((i.toNat : Nat) : Int) = i by omega]
    show ∃ s', f_M_weightOf_4 X w i I = f_M_weightOf_4 X s' (i + 1) I ∧ _
    rw [e_M_weightOf_4, wb.2.2, if_pos hi, if_pos w8]
    by_cases z : wgh I i
    · rw [if_neg z.1, hq.1 z.2]
      simp only [Option.bind_some]
      rw [if_neg (by decide), tW]
      simp only [Option.bind_some]
      rw [if_pos (by omega), if_pos (by omega)]
      rw [if_pos z] at e
      refine ⟨_, rfl, by omega, ?_⟩
      rw [p1, v.1, ← e, w64_id (by omega)]
    · rw [if_neg z] at e
      by_cases y : I 87 i = 0
      · rw [if_pos y, if_pos (by omega)]
        exact ⟨_, rfl, by omega, by rw [p1, ← e, w64_id (by omega)]⟩
      · rw [if_neg y, hq.2 (fun c => z ⟨y, c⟩)]
        simp only [Option.bind_some]
        rw [if_pos trivial, if_pos (by omega)]
        exact ⟨_, rfl, by omega, by rw [p1, ← e, w64_id (by omega)]⟩) (i := 0) (s := 1) (by omega) ⟨Int.le_refl 0, rfl⟩
  rw [e_M_weightOf]
  refine g1.trans ?_
  show f_M_weightOf_4 X w (I 3 3) I = _
  rw [e_M_weightOf_4, wb.2.2, if_neg (by omega), g3]
/-- the reference's ground for sums and weights: backs and lines laid -/
theorem M_ground (h : Rl I) : ∃ J1 J, f_M_layBacks X I = some (0, J1) ∧ f_M_takeLines X J1 = some (0, J) ∧ fr [93, 94] I J ∧ Rl J ∧ (∀ a, 0 ≤ a → a < J 4 0 → J 94 a = J 7 a) ∧ ∀ k, 0 ≤ k → k < 10 → J 93 k = I 13 k := by
  obtain ⟨hG, hB, hT, hW, hS, hV⟩ := id h
  obtain ⟨J1, a1, a2, a3⟩ := M_layBacks (X := X) hG
  obtain ⟨J, b1, b2, b3⟩ := M_takeLines (X := X) (I := J1)
  have f : fr [93, 94] I J := (a2.mono (by decide)).tr (b2.mono (by decide))
  refine ⟨J1, J, a1, b1, f, h.scr (f.mono (by decide)), fun a a0 a1 => ?_, fun k k0 k1 => ?_⟩
  · rw [b2 94 (by decide), f 7 (by decide)]; exact a3 a a0 (by rw [f 4 (by decide)] at a1; exact a1)
  · rw [b3 k k0 k1, a2 82 (by decide)]; exact (hT.1 k k0 k1).1
theorem ok_weight (h : Rl I) : Ok (f_T_weight X) (f_M_weight X) I := by
  obtain ⟨hG, hB, hT, hW, hS, hV⟩ := id h
  obtain ⟨J1, J, j1, j2, f, hJ, j4, j5⟩ := M_ground (X := X) h
  have l := hB.2.1
  have wb := hW.1
  have e4 : J 4 = I 4 := f 4 (by decide)
  have ht := hT.t13 hB
  refine ⟨_, I, J, T_weight h, ?_, hJ⟩
  rw [e_M_weight, j1]
  simp only [Option.bind_some]
  rw [j2]
  simp only [Option.bind_some]
  rw [M_weightOf hJ j4 (fun k k0 k1 => by rw [f 10 (by decide)] at k1; rw [j5 k k0 (by omega), e4]; exact ht k k0 k1)]
  simp only [Option.bind_some]
  rw [f 3 (by decide), wgp_congr hG hW (by rw [e4]) (f 6 (by decide)) (f 7 (by decide)) (f 9 (by decide)) (fun w w0 w1 => ⟨f _ (by simp only [List.mem_cons, List.not_mem_nil, or_false]; unfold wk; omega), f _ (by simp only [List.mem_cons, List.not_mem_nil, or_false]; unfold wk; omega)⟩) (f 11 (by decide)) (f 12 (by decide)) (f 83 (by decide)) (f 84 (by decide)) (f 85 (by decide)) (f 86 (by decide)) (f 87 (by decide)) (r := 13) (fun k k0 k1 => ⟨j5 k k0 (by omega), ht k k0 k1⟩) (by omega)]
/-- how many walks weigh -/
theorem many_w (h : Rl I) {J : pm_I} (f : fr [96, 97] I J) {v t : Int} : ∃ c, (0 ≤ c ∧ c ≤ 8) ∧ f_T_walksThatWeigh X I = some (c, I) ∧ f_M_many_24 X v t 0 0 J = f_M_many_24 X v t c (I 3 3) J := by
  obtain ⟨hG, hB, hT, hW, hS, hV⟩ := id h
  have hJ : Rl J := h.scr (f.mono (by decide))
  have wb := hW.1
  obtain ⟨q, g1, g2, g3, g4⟩ := pl_loop (σ := Int) (fun _ _ => some (0, I)) (I 3 3) (fun i c => 0 ≤ i ∧ (0 ≤ c ∧ c ≤ i) ∧ f_T_walksThatWeigh_4 X 0 0 I = f_T_walksThatWeigh_4 X c i I ∧ f_M_many_24 X v t 0 0 J = f_M_many_24 X v t c i J) (fun i c hi hp => by
    obtain ⟨p0, p1, p2, p3⟩ := hp
    have w8 : 0 ≤ i ∧ i < 8 := by omega
    have hw1 := hW.2 i p0 hi
    obtain ⟨c1, c2, -⟩ := c_wk w8
    have hq := W_weighs (X := X) w8 hw1
    have hw1J := hJ.2.2.2.1.2 i p0 (by rw [f 3 (by decide)]; exact hi)
    have hqM := M_isClosed (X := X) hJ.2.1 w8 hw1J
    have ec : cld J i ↔ cld I i := by
      unfold cld
      rw [endv.cg (f 11 (by decide)) (f 12 (by decide)) (f 83 (by decide)) (f 84 (by decide)) (f 85 (by decide)) (f 86 (by decide)), f 83 (by decide), f 84 (by decide)]
    have e1 := e_T_walksThatWeigh_4 X c i I
    have e2 := e_M_many_24 X v t c i J
    rw [if_pos hi, if_pos w8, c1, c2] at e1
    simp only [show Nat.beq 5 5 = true from rfl, cond_true] at e1
    rw [f 77 (by decide), f 87 (by decide), wb.2.2, if_pos hi, if_pos w8] at e2
    by_cases z : wgh I i
    · rw [hq.1 z] at e1
      simp only [Option.bind_some] at e1
      rw [if_neg (by decide), if_pos (by omega), if_pos (by omega)] at e1
      rw [if_neg z.1, hqM.1 (ec.mpr z.2)] at e2
      simp only [Option.bind_some] at e2
      rw [if_neg (by decide), if_pos (by omega), if_pos (by omega)] at e2
      have y := And.intro (p2.trans e1) (p3.trans e2)
      exact ⟨c + 1, rfl, by omega, by omega, y.1, y.2⟩
    · rw [hq.2 z] at e1
      simp only [Option.bind_some] at e1
      rw [if_pos trivial, if_pos (by omega)] at e1
      have e3 : f_M_many_24 X v t c i J = f_M_many_24 X v t c (i + 1) J := by
        by_cases y : I 87 i = 0
        · rw [if_pos y, if_pos (by omega), if_pos (by omega), Int.add_zero] at e2
          exact e2
        · rw [if_neg y, hqM.2 (fun k => z ⟨y, ec.mp k⟩)] at e2
          simp only [Option.bind_some] at e2
          rw [if_pos trivial, if_pos (by omega), if_pos (by omega), Int.add_zero] at e2
          exact e2
      have y := And.intro (p2.trans e1) (p3.trans e3)
      exact ⟨c, rfl, by omega, by omega, y.1, y.2⟩) (i := 0) (s := 0) (by omega) ⟨Int.le_refl 0, by omega, rfl, rfl⟩
  refine ⟨q, by omega, ?_, g4.2⟩
  rw [e_T_walksThatWeigh, g4.1, e_T_walksThatWeigh_4, if_neg (by omega)]
theorem ok_many (h : Rl I) {v : Int} : Ok (f_T_many X v) (f_M_many X v) I := by
  obtain ⟨hG, hB, hT, hW, hS, hV⟩ := id h
  obtain ⟨J, j1, j2, -⟩ := M_layTree (X := X) hB
  have hJ : Rl J := h.scr (j2.mono (by decide))
  have wb := hW.1
  have s := hS 0 (by omega) (by omega)
  have p := hB.1
  have l := hB.2.1
  have t := hT.2.1
  have tr : 0 ≤ I 10 2 ∧ I 10 2 ≤ 10 := by
    have := cn_r (inT (I 11) (I 12)) (I 10 1).toNat
    rw [hB.2.2.2.2.2]
    omega
  obtain ⟨c, c0, c1, c2⟩ := many_w (X := X) h j2 (v := v) (t := I 10 2)
  by_cases hv : 0 ≤ v ∧ v ≤ 7
  · have eM : f_M_many X v I = f_M_many_24 X v (I 10 2) c (I 3 3) J := by
      rw [e_M_many, M_in, if_pos hv]
      simp only [Option.bind_some]
      rw [if_neg (by decide), j1]
      exact c2
    rw [e_M_many_24, j2 77 (by decide), j2 89 (by decide), j2 90 (by decide), wb.2.2, if_neg (by omega), p.2.2, l.2.2, t.2.1] at eM
    have eT := e_T_many X v I
    rw [c1] at eT
    have : v = 0 ∨ v = 1 ∨ v = 2 ∨ v = 3 ∨ v = 4 ∨ v = 5 ∨ v = 6 ∨ v = 7 := by omega
    rcases this with z | z | z | z | z | z | z | z <;> subst z
    · exact ⟨_, _, _, eT, eM, hJ⟩
    · exact ⟨_, _, _, eT, eM, hJ⟩
    · exact ⟨_, _, _, eT, eM, hJ⟩
    · exact ⟨_, _, _, eT, eM, hJ⟩
    · refine ⟨I 10 0 - I 10 2, I, J, ?_, ?_, hJ⟩
      · rw [eT]; simp only [show ¬ ((4 : Int) = 0) by decide, show ¬ ((4 : Int) = 1) by decide, show ¬ ((4 : Int) = 2) by decide, show ¬ ((4 : Int) = 3) by decide, ↓reduceIte]; rw [if_pos (by omega)]
      · rw [eM]; simp only [show ¬ ((4 : Int) = 0) by decide, show ¬ ((4 : Int) = 1) by decide, show ¬ ((4 : Int) = 2) by decide, show ¬ ((4 : Int) = 3) by decide, ↓reduceIte]; rw [if_pos (by omega)]
    · exact ⟨_, _, _, eT, eM, hJ⟩
    · exact ⟨_, _, _, eT, eM, hJ⟩
    · obtain ⟨s1, s2, -⟩ := s
      rcases s1 with s1 | s1
      · refine ⟨-4, I, J, ?_, ?_, hJ⟩
        · rw [eT]
          show (if I (sh 0) 0 = 0 then _ else _) = _
          rw [if_pos s1.1]
        · rw [eM]
          show (if I 89 0 = -4 then _ else _) = _
          rw [if_pos s1.2]
      · refine ⟨I 90 0, I, J, ?_, ?_, hJ⟩
        · rw [eT]
          show (if I (sh 0) 0 = 0 then _ else some (I (sh 0) 1, I)) = _
          rw [if_neg (by omega), s2.1]
        · rw [eM]
          show (if I 89 0 = -4 then _ else some (I 90 0, J)) = _
          rw [if_neg (by omega)]
  · refine ⟨-1, I, I, ?_, ?_, h⟩
    · rw [e_T_many, if_neg (by omega), if_neg (by omega), if_neg (by omega), if_neg (by omega), if_neg (by omega), if_neg (by omega), if_neg (by omega), if_neg (by omega)]
    · rw [e_M_many, M_in, if_neg hv]; rfl
end WGT
