theorem pp_01 {f : Int → Int} : ∀ {k : Nat}, (∀ i : Nat, i < k → f i = 0 ∨ f i = 1) → pp f k = 0 ∨ pp f k = 1
  | 0, _ => Or.inr rfl
  | k + 1, h => by
    have ih := pp_01 (f := f) (k := k) (fun i hi => h i (by omega))
    have hk := h k (by omega)
    show pp f k * f k = 0 ∨ pp f k * f k = 1
    rcases ih with z | z <;> rcases hk with y | y <;> rw [z, y] <;> decide
section OKS
variable {X : pm_XT} {I : pm_I}
theorem Gs_01 {t : Int → Int} : Gs I t = 0 ∨ Gs I t = 1 := pp_01 (fun i _ => by
  unfold fS
  by_cases z : (i : Int) < I 3 3 ∧ wgh I i
  · rw [if_pos z]
    by_cases y : wtt I t i = 0
    · rw [if_pos y]; exact Or.inr rfl
    · rw [if_neg y]; exact Or.inl rfl
  · rw [if_neg z]; exact Or.inr rfl)
theorem M_sumW (hR : Rl I) : ∃ J, f_M_summed X 0 0 0 I = some (if 40000 < (I 4 0) ^ (I 10 1 - I 10 2).toNat then -6 else SA I (Gw I), J) ∧ fr scr I J :=
  M_summed hR (fun t ht => Gw_b hR ht) (fun t t' e => Gw_cg hR e) (fun K f k94 k99 k93 t N w8 v10 v11 a b c d => by
    have RK := hR.scr f
    have l := hR.2.1.2.1
    have mw := M_weightOf (X := X) RK (fun a a0 a1 => by rw [f 4 (by decide)] at a1; rw [f 7 (by decide)]; exact k94 a a0 a1) (fun k k0 k1 => by rw [f 10 (by decide)] at k1; rw [f 4 (by decide)]; exact k93 k k0 k1)
    rw [wgp_Gw RK, Gw_fr f] at mw
    have gb := Gw_b hR k93
    rw [e_M_summed_93, f 77 (by decide), l.2.2, if_neg (by omega), if_neg (by decide), if_pos rfl, mw]
    simp only [Option.bind_some]
    rw [if_pos (by omega), w64_id (by omega)])
theorem M_sumS (hR : Rl I) : ∃ J, f_M_summed X 2 0 0 I = some (if 40000 < (I 4 0) ^ (I 10 1 - I 10 2).toNat then -6 else SA I (Gs I), J) ∧ fr scr I J :=
  M_summed hR (fun t _ => Gs_b hR) (fun t t' e => Gs_cg hR e) (fun K f k94 k99 k93 t N w8 v10 v11 a b c d => by
    have RK := hR.scr f
    have l := hR.2.1.2.1
    have mw := M_isFlat (X := X) RK (fun a a0 a1 => by rw [f 4 (by decide)] at a1; rw [f 7 (by decide)]; exact k94 a a0 a1) (fun k k0 k1 => by rw [f 10 (by decide)] at k1; rw [f 4 (by decide)]; exact k93 k k0 k1)
    rw [Gs_fr f] at mw
    rw [e_M_summed_93, f 77 (by decide), l.2.2, if_neg (by omega), if_pos rfl, mw]
    simp only [Option.bind_some]
    rcases Gs_01 (I := I) (t := K 93) with z | z
    · rw [z, if_pos rfl, if_pos (by omega), w64_id (by omega)]
    · rw [z, if_neg (by decide), if_pos (by omega), w64_id (by omega)])
theorem M_sumC (hR : Rl I) {v c : Int} (hv : 0 ≤ v ∧ v < I 3 3) (hc : 0 ≤ c ∧ c < I 4 0) : ∃ J, f_M_summed X 1 v (I 8 c) I = some (if 40000 < (I 4 0) ^ (I 10 1 - I 10 2).toNat then -6 else SA I (Gc I v c), J) ∧ fr scr I J :=
  M_summed hR (fun t ht => Gc_b hR ht) (fun t t' e => by
    unfold Gc
    rw [wtt_cg hR hv e, Gw_cg hR e]) (fun K f k94 k99 k93 t N w8 v10 v11 a b c' d => by
    have RK := hR.scr f
    have l := hR.2.1.2.1
    have wb := hR.2.2.2.1.1
    have hn := hR.1.n
    have v8 : 0 ≤ v ∧ v < 8 := by omega
    have h94 : ∀ a, 0 ≤ a → a < K 4 0 → K 94 a = K 7 a := fun a a0 a1 => by rw [f 4 (by decide)] at a1; rw [f 7 (by decide)]; exact k94 a a0 a1
    have h93 : ∀ k, 0 ≤ k → k < K 10 1 → 0 ≤ K 93 k ∧ K 93 k < K 4 0 := fun k k0 k1 => by rw [f 10 (by decide)] at k1; rw [f 4 (by decide)]; exact k93 k k0 k1
    have mw := M_weightOf (X := X) RK h94 h93
    rw [wgp_Gw RK, Gw_fr f] at mw
    have mt := M_turnOf (X := X) RK.1 v8 (RK.2.2.2.1.2 v hv.1 (by rw [f 3 (by decide)]; exact hv.2)) (by rw [f 10 (by decide)]; exact l.2.1) h94 h93
    have et : wtn K 93 v = wtt I (K 93) v := wtt_fr f v8 (K 93)
    rw [et] at mt
    have tr := wtt_r hR hv k93
    have gb := Gw_b hR k93
    rw [e_M_summed_93, f 77 (by decide), l.2.2, if_neg (by omega), if_neg (by decide), if_neg (by decide), mt]
    simp only [Option.bind_some]
    rw [if_pos (by omega), k99 _ tr.1 tr.2]
    unfold Gc
    by_cases z : I 8 (wtt I (K 93) v) = I 8 c
    · rw [if_pos z, if_pos z, mw]
      simp only [Option.bind_some]
      rw [if_pos (by omega), Int.one_mul, w64_id (by omega)]
    · rw [if_neg z, if_neg z, if_pos (by omega), Int.zero_mul, Int.add_zero])
theorem M_canSum (hR : Rl I) {v a : Int} : ((0 ≤ v ∧ v < I 3 3) ∧ (0 ≤ a ∧ a < I 4 0) ∧ cld I v → f_M_canSum X v a I = some (1, I)) ∧ (¬ ((0 ≤ v ∧ v < I 3 3) ∧ (0 ≤ a ∧ a < I 4 0) ∧ cld I v) → f_M_canSum X v a I = some (0, I)) := by
  obtain ⟨hG, hB, hT, hW, hS, hV⟩ := id hR
  have wb := hW.1
  have hn := hG.n
  have e := e_M_canSum X v a I
  rw [M_isWalk (by omega), wb.2.2] at e
  simp only [Option.bind_some] at e
  rw [M_isTurn (by rw [hG.2.1]; omega), hG.2.1] at e
  simp only [Option.bind_some] at e
  by_cases z : 0 ≤ v ∧ v < I 3 3
  · rw [if_pos z, if_neg (by decide)] at e
    by_cases y : 0 ≤ a ∧ a < I 4 0
    · rw [if_pos y, if_neg (by decide)] at e
      have q := M_isClosed (X := X) hB ⟨z.1, by omega⟩ (hW.2 v z.1 z.2)
      by_cases x : cld I v
      · rw [q.1 x] at e
        exact ⟨fun _ => e, fun h => absurd ⟨z, y, x⟩ h⟩
      · rw [q.2 x] at e
        exact ⟨fun h => absurd h.2.2 x, fun _ => e⟩
    · rw [if_neg y, if_pos rfl] at e
      exact ⟨fun h => absurd h.2.1 y, fun _ => e⟩
  · rw [if_neg z, if_pos rfl] at e
    exact ⟨fun h => absurd h.1 z, fun _ => e⟩
theorem T_isClosedWalk (hR : Rl I) {v : Int} : ((0 ≤ v ∧ v < I 3 3) ∧ cld I v → f_T_isClosedWalk X v I = some (1, I)) ∧ (¬ ((0 ≤ v ∧ v < I 3 3) ∧ cld I v) → f_T_isClosedWalk X v I = some (0, I)) := by
  obtain ⟨hG, hB, hT, hW, hS, hV⟩ := id hR
  have wb := hW.1
  have e := e_T_isClosedWalk X v I
  rw [T_isWalk] at e
  simp only [Option.bind_some] at e
  by_cases z : 0 ≤ v ∧ v < I 3 3
  · have v8 : 0 ≤ v ∧ v < 8 := by omega
    obtain ⟨c1, c2, -⟩ := c_wk v8
    rw [if_pos z, if_neg (by decide), if_pos v8, c1, c2] at e
    simp only [show Nat.beq 5 5 = true from rfl, cond_true] at e
    have q := W_isClosed (X := X) v8 (hW.2 v z.1 z.2)
    by_cases x : cld I v
    · rw [q.1 x] at e
      exact ⟨fun _ => e, fun h => absurd ⟨z, x⟩ h⟩
    · rw [q.2 x] at e
      exact ⟨fun h => absurd h.2 x, fun _ => e⟩
  · rw [if_neg z, if_pos rfl] at e
    exact ⟨fun h => absurd h.1 z, fun _ => e⟩
theorem T_spent (hR : Rl I) : (40000 < (I 4 0) ^ (I 10 1 - I 10 2).toNat → f_T_isSpent X I = some (1, I)) ∧ (¬ 40000 < (I 4 0) ^ (I 10 1 - I 10 2).toNat → f_T_isSpent X I = some (0, I)) := by
  have e := T_isSpent (X := X) hR
  exact ⟨fun h => by rw [if_pos h] at e; exact e, fun h => by rw [if_neg h] at e; exact e⟩
theorem ok_sum (h : Rl I) : Ok (f_T_sum X) (f_M_sum X) I := by
  have sp := T_spent (X := X) h
  by_cases z : 40000 < (I 4 0) ^ (I 10 1 - I 10 2).toNat
  · obtain ⟨J, j1, j2⟩ := M_sumW (X := X) h
    rw [if_pos z] at j1
    refine ⟨-6, I, J, ?_, ?_, h.scr j2⟩
    · rw [e_T_sum, sp.1 z]; rfl
    · rw [e_M_sum, j1]; rfl
  · obtain ⟨K, k1, k2⟩ := T_sumOfWeights (X := X) h
    obtain ⟨J, j1, j2⟩ := M_sumW (X := X) (h.scr k2)
    rw [k2 4 (by decide), k2 10 (by decide), if_neg z, SA_fr k2, Gw_fr k2] at j1
    refine ⟨SA I (Gw I), K, J, ?_, ?_, h.scr (k2.tr j2)⟩
    · rw [e_T_sum, sp.2 z]
      simp only [Option.bind_some]
      rw [if_pos trivial, k1]
      rfl
    · rw [e_M_sum, j1]; rfl
theorem ok_flat (h : Rl I) : Ok (f_T_flat X) (f_M_flat X) I := by
  have sp := T_spent (X := X) h
  by_cases z : 40000 < (I 4 0) ^ (I 10 1 - I 10 2).toNat
  · obtain ⟨J, j1, j2⟩ := M_sumS (X := X) h
    rw [if_pos z] at j1
    refine ⟨-6, I, J, ?_, ?_, h.scr j2⟩
    · rw [e_T_flat, sp.1 z]; rfl
    · rw [e_M_flat, j1]; rfl
  · obtain ⟨K0, K, k0, k1, k2⟩ := T_flat_sum (X := X) h
    obtain ⟨J, j1, j2⟩ := M_sumS (X := X) (h.scr k2)
    rw [k2 4 (by decide), k2 10 (by decide), if_neg z, SA_fr k2, Gs_fr k2] at j1
    refine ⟨SA I (Gs I), K, J, ?_, ?_, h.scr (k2.tr j2)⟩
    · rw [e_T_flat, sp.2 z]
      simp only [Option.bind_some]
      rw [if_pos trivial, k0]
      exact k1
    · rw [e_M_flat, j1]; rfl
theorem ok_sumBy (h : Rl I) {v a : Int} : Ok (f_T_sumBy X v a) (f_M_sumBy X v a) I := by
  have sp := T_spent (X := X) h
  have wb := h.2.2.2.1.1
  have cM := M_canSum (X := X) h (v := v) (a := a)
  have cT := T_isClosedWalk (X := X) h (v := v)
  have tT := T_isTurn (X := X) (I := I) (a := a)
  by_cases q : (0 ≤ v ∧ v < I 3 3) ∧ (0 ≤ a ∧ a < I 4 0) ∧ cld I v
  · rw [if_pos q.2.1] at tT
    by_cases z : 40000 < (I 4 0) ^ (I 10 1 - I 10 2).toNat
    · obtain ⟨J, j1, j2⟩ := M_sumC (X := X) h q.1 q.2.1
      rw [if_pos z] at j1
      refine ⟨-6, I, J, ?_, ?_, h.scr j2⟩
      · rw [e_T_sumBy, cT.1 ⟨q.1, q.2.2⟩]
        simp only [Option.bind_some]
        rw [if_neg (by decide), tT]
        simp only [Option.bind_some]
        rw [if_neg (by decide), sp.1 z]; rfl
      · rw [e_M_sumBy, cM.1 q]
        simp only [Option.bind_some]
        rw [if_neg (by decide), M_classOf h.1 q.2.1]
        simp only [Option.bind_some]
        rw [j1]; rfl
    · obtain ⟨K, k1, k2⟩ := T_sumHeld (X := X) h q.1 q.2.2 q.2.1
      have RK := h.scr k2
      have cK := M_canSum (X := X) RK (v := v) (a := a)
      have qa : 0 ≤ a ∧ a < K 4 0 := by rw [k2 4 (by decide)]; exact q.2.1
      have qv : 0 ≤ v ∧ v < K 3 3 := by rw [k2 3 (by decide)]; exact q.1
      have qc : cld K v := by
        unfold cld
        rw [endv.cg (k2 11 (by decide)) (k2 12 (by decide)) (k2 83 (by decide)) (k2 84 (by decide)) (k2 85 (by decide)) (k2 86 (by decide)), k2 83 (by decide), k2 84 (by decide)]
        exact q.2.2
      obtain ⟨J, j1, j2⟩ := M_sumC (X := X) RK qv qa
      rw [k2 4 (by decide), k2 10 (by decide), if_neg z, SA_fr k2, Gc_fr k2 (by omega)] at j1
      refine ⟨SA I (Gc I v a), K, J, ?_, ?_, h.scr (k2.tr j2)⟩
      · rw [e_T_sumBy, cT.1 ⟨q.1, q.2.2⟩]
        simp only [Option.bind_some]
        rw [if_neg (by decide), tT]
        simp only [Option.bind_some]
        rw [if_neg (by decide), sp.2 z]
        simp only [Option.bind_some]
        rw [if_pos trivial, k1]
        rfl
      · rw [e_M_sumBy, cK.1 ⟨qv, qa, qc⟩]
        simp only [Option.bind_some]
        rw [if_neg (by decide), M_classOf RK.1 qa]
        simp only [Option.bind_some]
        rw [j1]; rfl
  · refine ⟨-1, I, I, ?_, ?_, h⟩
    · rw [e_T_sumBy]
      by_cases y : (0 ≤ v ∧ v < I 3 3) ∧ cld I v
      · rw [if_neg (fun x => q ⟨y.1, x, y.2⟩)] at tT
        rw [cT.1 y]
        simp only [Option.bind_some]
        rw [if_neg (by decide), tT]; rfl
      · rw [cT.2 y]; rfl
    · rw [e_M_sumBy, cM.2 q]; rfl
/-! the mean: Euclid -/
theorem gcd_st (x y : Nat) : Nat.gcd x y = Nat.gcd y (x % y) := by
  rw [Nat.gcd_comm x y, Nat.gcd_rec y x, Nat.gcd_comm]
theorem T_gcd : ∀ (k : Nat) (x y : Nat) (v : Int), 0 ≤ v → y < 2 ^ k → v + 2 * k < 200 → f_T_commonDivisor_9 X x y v I = some (((Nat.gcd x y : Nat) : Int), I)
  | 0, x, y, v, v0, hy, hv => by
    have y0 : y = 0 := by
      have : y < 1 := hy
      omega
    subst y0
    rw [e_T_commonDivisor_9, if_pos (by omega), if_neg (by omega), if_pos (by omega), Nat.gcd_zero_right]
  | k + 1, x, y, v, v0, hy, hv => by
    by_cases y0 : y = 0
    · subst y0
      rw [e_T_commonDivisor_9, if_pos (by omega), if_neg (by omega), if_pos (by omega), Nat.gcd_zero_right]
    · have m1 : x % y < y := Nat.mod_lt _ (by omega)
      rw [e_T_commonDivisor_9, if_pos (by omega), if_pos (by omega), if_pos (by omega), if_pos (by omega), ← Int.natCast_emod]
      by_cases r0 : x % y = 0
      · rw [gcd_st x y, r0, e_T_commonDivisor_9, if_pos (by omega), if_neg (by omega), if_pos (by omega), Nat.gcd_zero_right]
      · rw [e_T_commonDivisor_9, if_pos (by omega), if_pos (by omega), if_pos (by omega), if_pos (by omega), ← Int.natCast_emod]
        have m2 : y % (x % y) < x % y := Nat.mod_lt _ (by omega)
        have hd : y % (x % y) < 2 ^ k := by
          have e : 2 ^ (k + 1) = 2 * 2 ^ k := by rw [Nat.pow_succ, Nat.mul_comm]
          by_cases q : 2 * (x % y) ≤ y
          · omega
          · have : y % (x % y) = y - x % y := by
              rw [Nat.mod_eq_sub_mod (by omega), Nat.mod_eq_of_lt (by omega)]
            omega
        rw [T_gcd k (x % y) (y % (x % y)) (v + 1 + 1) (by omega) hd (by omega), gcd_st x y, gcd_st y (x % y)]
theorem M_gcd {v3 : Int} {w4 w6 : Nat} : ∀ (y x : Nat), 0 < Nat.gcd x y → f_M_mean_77 X v3 w4 w6 x y I = some (if v3 = 0 then (w6 : Int) / (Nat.gcd x y : Nat) else (w4 : Int) / (Nat.gcd x y : Nat), I) := by
  intro y
  induction y using Nat.strongRecOn with
  | _ y ih =>
    intro x hg
    by_cases y0 : y = 0
    · subst y0
      rw [Nat.gcd_zero_right] at hg ⊢
      rw [e_M_mean_77, if_neg (by omega), if_pos (by omega)]
      by_cases z : v3 = 0
      · rw [if_pos z, if_pos z, if_pos (by omega)]
      · rw [if_neg z, if_neg z, if_pos (by omega)]
    · have m1 : x % y < y := Nat.mod_lt _ (by omega)
      rw [gcd_st x y] at hg
      rw [e_M_mean_77, if_pos (by omega), if_pos (by omega), ← Int.natCast_emod, ih (x % y) m1 y hg, gcd_st x y]
theorem SA_b (hR : Rl I) {G : (Int → Int) → Int} (hb : ∀ t, inr I t → 0 ≤ G t ∧ G t ≤ 43046721) : 0 ≤ SA I G ∧ SA I G ≤ 1073741824 * 43046721 := by
  have hn := hR.1.n
  have l := hR.2.1.2.1
  have nN : (((I 4 0).toNat : Nat) : Int) = I 4 0 := by omega
  have bd := SM_bd (G := G) (n := (I 4 0).toNat) (tr := inT (I 11) (I 12)) (by omega) (M := 43046721) (d := (I 10 1).toNat) (j := 0) (t := fun _ => 0) (fun t q => hb t (fun k k0 k1 => by have := q k k0 (by omega); omega)) (fun _ _ _ => by omega)
  have p10 := pw_b (I := I) hn (k := (I 10 1).toNat) (by omega)
  rw [nN] at bd
  have bd2 : (I 4 0) ^ (I 10 1).toNat * 43046721 ≤ 1073741824 * 43046721 := Int.mul_le_mul_of_nonneg_right p10.2 (by omega)
  exact ⟨bd.1, Int.le_trans bd.2 bd2⟩
theorem ok_mean (h : Rl I) {v a u : Int} : Ok (f_T_mean X v a u) (f_M_mean X v a u) I := by
  have sp := T_spent (X := X) h
  have wb := h.2.2.2.1.1
  have cT := T_isClosedWalk (X := X) h (v := v)
  have tT := T_isTurn (X := X) (I := I) (a := a)
  by_cases q : (0 ≤ v ∧ v < I 3 3) ∧ (0 ≤ a ∧ a < I 4 0) ∧ cld I v
  · rw [if_pos q.2.1] at tT
    by_cases hu : 0 ≤ u ∧ u ≤ 1
    · have eT := e_T_mean X v a u I
      rw [cT.1 ⟨q.1, q.2.2⟩] at eT
      simp only [Option.bind_some] at eT
      rw [if_neg (by decide), tT] at eT
      simp only [Option.bind_some] at eT
      rw [if_neg (by decide), if_neg (by omega), if_neg (by omega)] at eT
      -- the reference, from any heap with the same
      have mm : ∀ K : pm_I, fr scr I K → f_M_mean X v a u K = (f_M_summed X 0 0 0 K).bind (fun x3 =>
          if (-6) < x3.1 then
          if 0 < x3.1 then
          (f_M_classOf X a x3.2).bind (fun x4 =>
          (f_M_summed X 1 v x4.1 x4.2).bind (fun x5 =>
          f_M_mean_77 X u x3.1 x5.1 x5.1 x3.1 x5.2))
          else if x3.1 = 0 then
          some ((-2), x3.2)
          else (f_M_classOf X a x3.2).bind (fun x6 =>
          (f_M_summed X 1 v x6.1 x6.2).bind (fun x7 =>
          f_M_mean_77 X u x3.1 x7.1 x7.1 x3.1 x7.2))
          else if x3.1 = (-6) then
          some ((-6), x3.2)
          else if 0 < x3.1 then
          (f_M_classOf X a x3.2).bind (fun x8 =>
          (f_M_summed X 1 v x8.1 x8.2).bind (fun x9 =>
          f_M_mean_77 X u x3.1 x9.1 x9.1 x3.1 x9.2))
          else if x3.1 = 0 then
          some ((-2), x3.2)
          else (f_M_classOf X a x3.2).bind (fun x10 =>
          (f_M_summed X 1 v x10.1 x10.2).bind (fun x11 =>
          f_M_mean_77 X u x3.1 x11.1 x11.1 x3.1 x11.2))) := fun K k2 => by
        have RK := h.scr k2
        have cK := M_canSum (X := X) RK (v := v) (a := a)
        have qa : 0 ≤ a ∧ a < K 4 0 := by rw [k2 4 (by decide)]; exact q.2.1
        have qv : 0 ≤ v ∧ v < K 3 3 := by rw [k2 3 (by decide)]; exact q.1
        have qc : cld K v := by
          unfold cld
          rw [endv.cg (k2 11 (by decide)) (k2 12 (by decide)) (k2 83 (by decide)) (k2 84 (by decide)) (k2 85 (by decide)) (k2 86 (by decide)), k2 83 (by decide), k2 84 (by decide)]
          exact q.2.2
        rw [e_M_mean, cK.1 ⟨qv, qa, qc⟩]
        simp only [Option.bind_some]
        rw [if_neg (by decide), M_in, if_pos hu]
        simp only [Option.bind_some]
        rw [if_neg (by decide)]
      by_cases z : 40000 < (I 4 0) ^ (I 10 1 - I 10 2).toNat
      · obtain ⟨J, j1, j2⟩ := M_sumW (X := X) h
        rw [if_pos z] at j1
        refine ⟨-6, I, J, ?_, ?_, h.scr j2⟩
        · rw [eT, sp.1 z]; rfl
        · rw [mm I (fr.rf _ _), j1]; rfl
      · obtain ⟨K, k1, k2⟩ := T_sumOfWeights (X := X) h
        have sb := SA_b h (fun t ht => Gw_b h ht)
        rw [sp.2 z] at eT
        simp only [Option.bind_some] at eT
        rw [if_pos trivial, k1] at eT
        simp only [Option.bind_some] at eT
        by_cases s0 : SA I (Gw I) = 0
        · obtain ⟨J, j1, j2⟩ := M_sumW (X := X) (h.scr k2)
          rw [k2 4 (by decide), k2 10 (by decide), if_neg z, SA_fr k2, Gw_fr k2] at j1
          refine ⟨-2, K, J, ?_, ?_, h.scr (k2.tr j2)⟩
          · rw [eT, if_neg (by omega), if_pos s0]
          · rw [mm K k2, j1]
            simp only [Option.bind_some]
            rw [if_pos (by omega), if_neg (by omega), if_pos s0]
        · have RK := h.scr k2
          have qa : 0 ≤ a ∧ a < K 4 0 := by rw [k2 4 (by decide)]; exact q.2.1
          have qv : 0 ≤ v ∧ v < K 3 3 := by rw [k2 3 (by decide)]; exact q.1
          have qc : cld K v := by
            unfold cld
            rw [endv.cg (k2 11 (by decide)) (k2 12 (by decide)) (k2 83 (by decide)) (k2 84 (by decide)) (k2 85 (by decide)) (k2 86 (by decide)), k2 83 (by decide), k2 84 (by decide)]
            exact q.2.2
          obtain ⟨L, l1, l2⟩ := T_sumHeld (X := X) RK qv qc qa
          rw [SA_fr k2, Gc_fr k2 (by omega)] at l1
          have f2 := k2.tr l2
          have sc := SA_b h (fun t ht => Gc_b h (v := v) (c := a) ht)
          obtain ⟨J, j1, j2⟩ := M_sumW (X := X) (h.scr f2)
          rw [f2 4 (by decide), f2 10 (by decide), if_neg z, SA_fr f2, Gw_fr f2] at j1
          have f3 := f2.tr j2
          have RJ := h.scr f3
          have qaJ : 0 ≤ a ∧ a < J 4 0 := by rw [f3 4 (by decide)]; exact q.2.1
          have qvJ : 0 ≤ v ∧ v < J 3 3 := by rw [f3 3 (by decide)]; exact q.1
          obtain ⟨M, m1, m2⟩ := M_sumC (X := X) RJ qvJ qaJ
          rw [f3 4 (by decide), f3 10 (by decide), if_neg z, SA_fr f3, Gc_fr f3 (by omega)] at m1
          generalize SA I (Gw I) = all at *
          generalize SA I (Gc I v a) = som at *
          obtain ⟨A, rfl⟩ : ∃ A : Nat, all = (A : Int) := ⟨all.toNat, by omega⟩
          obtain ⟨B, rfl⟩ : ∃ B : Nat, som = (B : Int) := ⟨som.toNat, by omega⟩
          have hA : 0 < A := by omega
          have hg : 0 < Nat.gcd A B := Nat.gcd_pos_of_pos_left _ hA
          have gT : f_T_commonDivisor X (A : Int) (B : Int) L = some (((Nat.gcd A B : Nat) : Int), L) := by
            rw [e_T_commonDivisor]
            exact T_gcd 57 A B 0 (by omega) (by
              have : (2 : Nat) ^ 57 = 144115188075855872 := by decide
              omega) (by omega)
          have gM := M_gcd (X := X) (I := M) (v3 := u) (w4 := A) (w6 := B) A B (by rw [Nat.gcd_comm]; exact hg)
          rw [Nat.gcd_comm] at gM
          rw [if_pos (by omega), l1] at eT
          simp only [Option.bind_some] at eT
          rw [gT] at eT
          simp only [Option.bind_some] at eT
          rw [if_pos (by omega)] at eT
          refine ⟨if u = 0 then (B : Int) / (Nat.gcd A B : Nat) else (A : Int) / (Nat.gcd A B : Nat), L, M, ?_, ?_, h.scr (f3.tr m2)⟩
          · rw [eT]
            by_cases u0 : u = 0
            · rw [if_pos u0, if_pos u0, if_pos (by omega)]
            · rw [if_neg u0, if_neg u0, if_pos (by omega)]
          · rw [mm L f2, j1]
            simp only [Option.bind_some]
            rw [if_pos (by omega), if_pos (by omega), M_classOf RJ.1 qaJ]
            simp only [Option.bind_some]
            rw [m1]
            simp only [Option.bind_some]
            exact gM
    · refine ⟨-1, I, I, ?_, ?_, h⟩
      · rw [e_T_mean, cT.1 ⟨q.1, q.2.2⟩]
        simp only [Option.bind_some]
        rw [if_neg (by decide), tT]
        simp only [Option.bind_some]
        rw [if_neg (by decide)]
        by_cases y : u < 0
        · rw [if_pos y]
        · rw [if_neg y, if_pos (by omega)]
      · rw [e_M_mean, (M_canSum (X := X) h).1 q]
        simp only [Option.bind_some]
        rw [if_neg (by decide), M_in, if_neg hu]
        rfl
  · refine ⟨-1, I, I, ?_, ?_, h⟩
    · rw [e_T_mean]
      by_cases y : (0 ≤ v ∧ v < I 3 3) ∧ cld I v
      · rw [if_neg (fun x => q ⟨y.1, x, y.2⟩)] at tT
        rw [cT.1 y]
        simp only [Option.bind_some]
        rw [if_neg (by decide), tT]; rfl
      · rw [cT.2 y]; rfl
    · rw [e_M_mean, (M_canSum (X := X) h).2 q]; rfl
end OKS
