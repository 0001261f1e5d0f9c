theorem cp_rw (I : pm_I) {q r z : Nat} {sp dp n : Int} (h : z ≠ r) : pm_cp I q sp r dp n z = I z := by funext j; simp [pm_cp, h]
theorem cp_at (I : pm_I) (q r : Nat) (sp dp n j : Int) : pm_cp I q sp r dp n r j = if dp ≤ j ∧ j < dp + n then I q (sp + (j - dp)) else I r j := by simp [pm_cp]
section OPA
variable {X : pm_XT} {I : pm_I}
/-- the class keeps the turns -/
theorem A_keep (h0 : 0 ≤ I 43 0 ∧ I 43 0 ≤ 8) (h1 : 0 ≤ I 43 1 ∧ I 43 1 < 8) : ∃ J, f_A_keep X I = some (0, J) ∧ fr [43, 45 + (I 43 1).toNat] I J ∧ (∀ k, 0 ≤ k → k < 10 → J (45 + (I 43 1).toNat) k = I 13 k) ∧ J 43 0 = min (I 43 0 + 1) 8 ∧ J 43 1 = (I 43 1 + 1) % 8 := by
  obtain ⟨c1, c2⟩ := c_ac h1
  have c3 := c_acl X.2 h1
  have n1 : ¬ (43 : Nat) = 45 + (I 43 1).toNat := by omega
  generalize hr : 45 + (I 43 1).toNat = r at *
  have e43 : pm_cp I 13 0 r 0 10 43 = I 43 := cp_rw _ n1
  have fc : fr [43, r] I (pm_cp I 13 0 r 0 10) := fun z hz => cp_rw _ (by simp at hz; exact hz.2)
  rw [e_A_keep, c1, c2, c3, if_pos h1]
  simp only [show Nat.beq 8 8 = true from rfl, Bool.and_self, cond_true]
  rw [if_pos (by omega), e43, if_pos (by omega)]
  simp only [up_of, e43]
  have hrow : ∀ v u k, 0 ≤ k → k < 10 → pm_up (pm_up (pm_cp I 13 0 r 0 10) 43 1 v) 43 0 u r k = I 13 k := fun v u k k0 k1 => by
    rw [up_rw _ (fun e => n1 e.symm), up_rw _ (fun e => n1 e.symm), cp_at, if_pos (by omega)]
    congr 1
    omega
  by_cases q : I 43 1 + 1 < 8
  · rw [if_pos q, if_pos (by omega)]
    simp only [show ¬ ((0 : Int) = 1) by decide, and_false, ↓reduceIte]
    rw [if_pos (by omega)]
    refine ⟨_, rfl, (fc.up (by simp)).up (by simp), hrow _ _, by simp [up_of], ?_⟩
    simp [up_of]
    omega
  · rw [if_neg q]
    simp only [show ¬ ((0 : Int) = 1) by decide, and_false, ↓reduceIte]
    rw [if_pos (by omega)]
    refine ⟨_, rfl, (fc.up (by simp)).up (by simp), hrow _ _, by simp [up_of], ?_⟩
    simp [up_of]
    omega
/-- the reference keeps them -/
theorem M_record (h0 : 0 ≤ I 77 14 ∧ I 77 14 ≤ 8) : ∃ J, f_M_record X I = some (0, J) ∧ fr [77, 88] I J ∧ (∀ j, j ≠ 14 → J 77 j = I 77 j) ∧ J 77 14 = min (I 77 14 + 1) 8 ∧
    ∀ i k, 0 ≤ i → i < min (I 77 14 + 1) 8 → 0 ≤ k → k < 10 → J 88 (10 * i + k) = if i = min (I 77 14) 7 then I 82 k else if I 77 14 = 8 then I 88 (10 * (i + 1) + k) else I 88 (10 * i + k) := by
  -- laying the turns behind m acts
  have lay : ∀ (L : pm_I) (m : Int), L 77 14 = m → 0 ≤ m → m ≤ 7 → ∃ J, f_M_record_51 X 0 L = some (0, J) ∧ fr [77, 88] L J ∧ (∀ j, j ≠ 14 → J 77 j = L 77 j) ∧ J 77 14 = m + 1 ∧ ∀ j, J 88 j = if 10 * m ≤ j ∧ j < 10 * m + 10 then L 82 (j - 10 * m) else L 88 j := fun L m hm m0 m7 => by
    obtain ⟨J, g1, g2, g3, g4⟩ := pl_loop (fun i (J : pm_I) => f_M_record_51 X i J) 10 (fun i J => 0 ≤ i ∧ fr [88] L J ∧ ∀ j, J 88 j = if 10 * m ≤ j ∧ j < 10 * m + i then L 82 (j - 10 * m) else L 88 j) (fun i J hi hp => by
      obtain ⟨p0, p1, p2⟩ := hp
      show ∃ s', f_M_record_51 X i J = f_M_record_51 X (i + 1) s' ∧ _
      rw [e_M_record_51, p1 77 (by decide), p1 82 (by decide), hm, if_pos hi, if_pos (by omega), if_pos (by omega), if_pos (by omega), if_pos (by omega), if_pos (by omega)]
      refine ⟨_, rfl, by omega, p1.up (by decide), fun j => ?_⟩
      rw [up_at, p2 j]
      by_cases z : j = 10 * m + i
      · rw [if_pos z, if_pos (by omega), z]
        congr 1
        omega
      · rw [if_neg z]
        by_cases y : 10 * m ≤ j ∧ j < 10 * m + i
        · rw [if_pos y, if_pos (by omega)]
        · rw [if_neg y, if_neg (by omega)]) (i := 0) (s := L) (by omega) ⟨Int.le_refl 0, fr.rf _ _, fun j => by rw [if_neg (by omega)]⟩
    refine ⟨pm_up J 77 14 (m + 1), ?_, (g3.mono (by decide)).up (by decide), fun j hj => ?_, up_eq _ _ _ _, fun j => ?_⟩
    · refine g1.trans ?_
      show f_M_record_51 X 10 J = _
      rw [e_M_record_51, if_neg (by omega), g3 77 (by decide), hm, if_pos (by omega)]
    · rw [up_ne _ hj, g3 77 (by decide)]
    · rw [up_rw _ (by decide)]; exact g4 j
  rw [e_M_record]
  by_cases q : I 77 14 = 8
  · rw [if_pos q]
    obtain ⟨J, g1, g2, g3, g4⟩ := pl_loop (fun i (J : pm_I) => f_M_record_12 X i J) 80 (fun i J => 10 ≤ i ∧ fr [88] I J ∧ ∀ j, J 88 j = if 0 ≤ j ∧ j < i - 10 then I 88 (j + 10) else I 88 j) (fun i J hi hp => by
      obtain ⟨p0, p1, p2⟩ := hp
      show ∃ s', f_M_record_12 X i J = f_M_record_12 X (i + 1) s' ∧ _
      rw [e_M_record_12, if_pos hi, if_pos (by omega), if_pos (by omega), if_pos (by omega), if_pos (by omega)]
      refine ⟨_, rfl, by omega, p1.up (by decide), fun j => ?_⟩
      rw [up_at, p2 j, p2 i, if_neg (show ¬ (0 ≤ i ∧ i < i - 10) by omega)]
      by_cases z : j = i - 10
      · rw [if_pos z, if_pos (by omega), z]
        congr 1
        omega
      · rw [if_neg z]
        by_cases y : 0 ≤ j ∧ j < i - 10
        · rw [if_pos y, if_pos (by omega)]
        · rw [if_neg y, if_neg (by omega)]) (i := 10) (s := I) (by omega) ⟨Int.le_refl 10, fr.rf _ _, fun j => by rw [if_neg (by omega)]⟩
    obtain ⟨K, k1, k2, k3, k4, k5⟩ := lay (pm_up J 77 14 7) 7 (up_eq _ _ _ _) (by omega) (by omega)
    have e0 : f_M_record_12 X 80 J = f_M_record_51 X 0 (pm_up J 77 14 7) := by
      rw [e_M_record_12, if_neg (by omega), g3 77 (by decide), q, if_pos (by omega)]
      rfl
    refine ⟨K, (g1.trans e0).trans k1, ((g3.mono (by decide)).up (by decide)).tr k2, fun j hj => ?_, by rw [k4]; omega, fun i k i0 i1 k0 k1 => ?_⟩
    · rw [k3 j hj, up_ne _ hj, g3 77 (by decide)]
    · rw [k5, up_rw _ (by decide), up_rw _ (by decide), g4, if_pos q, g3 82 (by decide)]
      by_cases z : i = min (I 77 14) 7
      · rw [if_pos z, if_pos (by omega)]
        congr 1
        omega
      · rw [if_neg z, if_neg (by omega), if_pos (by omega)]
        congr 1
        omega
  · rw [if_neg q]
    obtain ⟨K, k1, k2, k3, k4, k5⟩ := lay I (I 77 14) rfl h0.1 (by omega)
    refine ⟨K, k1, k2, k3, by rw [k4]; omega, fun i k i0 i1 k0 k1 => ?_⟩
    rw [k5, if_neg q]
    by_cases z : i = min (I 77 14) 7
    · rw [if_pos z, if_pos (by omega)]
      congr 1
      omega
    · rw [if_neg z, if_neg (by omega)]
/-- both keep the same: the acts' relation again -/
theorem RlT.keep {K : pm_I} (hT : RlT I) (e4 : K 4 0 = I 4 0) (e10 : K 10 1 = I 10 1) (ht : ∀ k, 0 ≤ k → k < 10 → K 82 k = K 13 k ∧ (0 ≤ K 13 k ∧ K 13 k < K 4 0) ∧ (K 10 1 ≤ k → K 13 k = 0))
    (a0 : K 43 0 = min (I 43 0 + 1) 8) (a1 : K 43 1 = (I 43 1 + 1) % 8) (an : ∀ k, 0 ≤ k → k < 10 → K (45 + (I 43 1).toNat) k = I 13 k) (ao : ∀ r, 45 ≤ r → r < 53 → r ≠ 45 + (I 43 1).toNat → K r = I r)
    (m0 : K 77 14 = min (I 77 14 + 1) 8) (m1 : ∀ i k, 0 ≤ i → i < min (I 77 14 + 1) 8 → 0 ≤ k → k < 10 → K 88 (10 * i + k) = if i = min (I 77 14) 7 then I 82 k else if I 77 14 = 8 then I 88 (10 * (i + 1) + k) else I 88 (10 * i + k)) : RlT K := by
  obtain ⟨t1, ⟨t2, t3, t4⟩, t5⟩ := hT
  refine ⟨ht, ⟨by omega, by rw [m0, a0, t3], by omega⟩, fun i k i0 i1 k0 k1 => ?_⟩
  rw [a0] at i1
  have hm := m1 i k i0 (by omega) k0 k1
  rw [t3] at hm
  by_cases z : i = min (I 43 0) 7
  · have er : arow K i = 45 + (I 43 1).toNat := by unfold arow; rw [a0, a1]; omega
    rw [if_pos z] at hm
    rw [er, hm, an k k0 k1, e4, e10]
    have := t1 k k0 k1
    exact ⟨this.1.symm, by rw [this.1]; exact this.2.1, by rw [this.1]; exact this.2.2⟩
  · rw [if_neg z] at hm
    by_cases q : I 43 0 = 8
    · rw [if_pos q] at hm
      have er : arow K i = arow I (i + 1) := by unfold arow; rw [a0, a1]; omega
      rw [er, hm, e4, e10, ao _ (by unfold arow; omega) (by unfold arow; omega) (by unfold arow; omega)]
      exact t5 (i + 1) k (by omega) (by omega) k0 k1
    · rw [if_neg q] at hm
      have er : arow K i = arow I i := by unfold arow; rw [a0, a1]; omega
      rw [er, hm, e4, e10, ao _ (by unfold arow; omega) (by unfold arow; omega) (by unfold arow; omega)]
      exact t5 i k i0 (by omega) k0 k1
/-- all but turns and acts -/
theorem Rl.turns {K : pm_I} (h : Rl I) (f : fr [13, 43, 45, 46, 47, 48, 49, 50, 51, 52, 77, 82, 88, 16, 17, 94, 95, 96, 97, 98] I K) (h77 : ∀ j, j ≠ 14 → K 77 j = I 77 j) (hT : RlT K) : Rl K := by
  obtain ⟨hG, hB, -, hW, hS, hV⟩ := h
  have e10 := f 10 (by decide)
  have e4 := f 4 (by decide)
  exact ⟨hG.cg (by rw [e4]) (f 6 (by decide)) (f 7 (by decide)) (f 8 (by decide)) (h77 0 (by decide)) (f 78 (by decide)),
    hB.cg (by rw [e10]) (by rw [e10]) (by rw [e10]) (h77 3 (by decide)) (h77 4 (by decide)) (f 11 (by decide)) (f 12 (by decide)) (f 14 (by decide)) (f 15 (by decide)) (f 80 (by decide)) (f 81 (by decide)), hT,
    hW.cg (by rw [f 3 (by decide)]) (h77 8 (by decide)) (by rw [e10]) (by rw [e10]) (f 11 (by decide)) (f 12 (by decide)) (fun r a b => f r (by simp only [List.mem_cons, List.not_mem_nil, or_false]; omega)) (f 83 (by decide)) (f 84 (by decide)) (f 85 (by decide)) (f 86 (by decide)) (f 87 (by decide)),
    hS.fr f (by decide), hV.fr f (by decide)⟩
theorem frA {J : pm_I} {v : Int} (hv : 0 ≤ v ∧ v < 8) (f : fr [43, 45 + v.toNat] I J) : fr [13, 43, 45, 46, 47, 48, 49, 50, 51, 52, 77, 82, 88, 16, 17, 94, 95, 96, 97, 98] I J := f.mono (fun r hr => by
  simp only [List.mem_cons, List.not_mem_nil, or_false] at hr ⊢
  omega)
theorem ok_set (h : Rl I) {k a : Int} : Ok (f_T_set X k a) (f_M_set X k a) I := by
  obtain ⟨hG, hB, hT, hW, hS, hV⟩ := id h
  have l := hB.2.1
  have hn := hG.n
  have e := hG.2.1
  have hTa := T_isLine (X := X) (I := I) (a := k)
  have hMa := M_isLine (X := X) (I := I) (a := k) (by omega)
  rw [l.2.2] at hMa
  by_cases hk : 0 ≤ k ∧ k < I 10 1
  · rw [if_pos hk] at hTa hMa
    have hTb := T_isTurn (X := X) (I := I) (a := a)
    have hMb := M_isTurn (X := X) (I := I) (a := a) (by omega)
    rw [e] at hMb
    by_cases ha : 0 ≤ a ∧ a < I 4 0
    · rw [if_pos ha] at hTb hMb
      obtain ⟨t1, ⟨t2, t3, t4⟩, t5⟩ := id hT
      obtain ⟨J, j1, j2, j3, j4, j5⟩ := A_keep (X := X) t2 t4
      have oJ : ∀ r, r ≠ 43 → ¬ (45 ≤ r ∧ r < 53) → J r = I r := fun r h1 h2 => j2 r (by simp only [List.mem_cons, List.not_mem_nil, or_false]; omega)
      have J77 : J 77 = I 77 := oJ 77 (by decide) (by omega)
      generalize hL : pm_up J 13 k a = L
      have oL : ∀ r, r ≠ 13 → L r = J r := fun r h1 => by rw [← hL, up_rw _ h1]
      have L13 : ∀ j, L 13 j = if j = k then a else I 13 j := fun j => by rw [← hL, up_at, oJ 13 (by decide) (by omega)]
      have L77 : L 77 = I 77 := by rw [oL 77 (by decide), J77]
      obtain ⟨M, m1, m2, m3, m4, m5⟩ := M_record (X := X) (I := L) (by rw [L77, t3]; exact t2)
      have oM : ∀ r, r ≠ 77 → r ≠ 88 → M r = L r := fun r h1 h2 => m2 r (by simp [h1, h2])
      have M82 : M 82 = I 82 := by rw [oM 82 (by decide) (by decide), oL 82 (by decide), oJ 82 (by decide) (by omega)]
      refine ⟨I 13 k, L, pm_up M 82 k a, ?_, ?_, ?_⟩
      · rw [e_T_set, hTa]
        simp only [Option.bind_some]
        rw [if_neg (by decide), hTb]
        simp only [Option.bind_some]
        rw [if_neg (by decide), if_pos (by omega), j1]
        simp only [Option.bind_some]
        rw [if_pos (by omega), hL]
      · have hMa1 := M_isLine (X := X) (I := L) (a := k) (by rw [L77]; omega)
        have hMb1 := M_isTurn (X := X) (I := L) (a := a) (by rw [L77]; omega)
        rw [L77, l.2.2, if_pos hk] at hMa1
        rw [L77, e, if_pos ha] at hMb1
        rw [e_M_set, hMa1]
        simp only [Option.bind_some]
        rw [if_neg (by decide), hMb1]
        simp only [Option.bind_some]
        rw [if_neg (by decide), m1]
        simp only [Option.bind_some]
        rw [if_pos (by omega), if_pos (by omega), M82, (t1 k hk.1 (by omega)).1]
      · generalize hK : pm_up M 82 k a = K
        have K82 : ∀ j, K 82 j = if j = k then a else I 82 j := fun j => by rw [← hK, up_at, M82]
        have oK : ∀ r, r ≠ 82 → K r = M r := fun r h1 => by rw [← hK, up_rw _ h1]
        have f : fr [13, 43, 45, 46, 47, 48, 49, 50, 51, 52, 77, 82, 88, 16, 17, 94, 95, 96, 97, 98] I K := by
          rw [← hK]
          refine (((frA t4 j2).tr ?_).tr (m2.mono (by decide))).up (by decide)
          rw [← hL]
          exact (fr.rf _ J).up (by decide)
        have o : ∀ r, r ≠ 82 → r ≠ 77 → r ≠ 88 → r ≠ 13 → K r = J r := fun r h1 h2 h3 h4 => by rw [oK r h1, oM r h2 h3, oL r h4]
        have K13 : K 13 = L 13 := by rw [oK 13 (by decide), oM 13 (by decide) (by decide)]
        refine h.turns f (fun j hj => by rw [oK 77 (by decide), m3 j hj, L77]) (hT.keep (by rw [f 4 (by decide)]) (by rw [f 10 (by decide)]) (fun j j0 j1' => ?_) (by rw [o 43 (by decide) (by decide) (by decide) (by decide), j4]) (by rw [o 43 (by decide) (by decide) (by decide) (by decide), j5]) (fun j j0 j9 => by rw [o _ (by omega) (by omega) (by omega) (by omega)]; exact j3 j j0 j9) (fun r h1 h2 h3 => by rw [o r (by omega) (by omega) (by omega) (by omega), j2 r (by simp only [List.mem_cons, List.not_mem_nil, or_false]; omega)]) (by rw [oK 77 (by decide), m4, L77]) (fun i j i0 i1 j0 j9 => ?_))
        · rw [K82, K13, L13, f 4 (by decide), f 10 (by decide)]
          by_cases z : j = k
          · rw [if_pos z, if_pos z]; exact ⟨rfl, ha, fun q => by omega⟩
          · rw [if_neg z, if_neg z]; exact t1 j j0 j1'
        · rw [oK 88 (by decide)]
          have := m5 i j i0 (by rw [L77]; exact i1) j0 j9
          rw [L77, oL 82 (by decide), oL 88 (by decide), oJ 82 (by decide) (by omega), oJ 88 (by decide) (by omega)] at this
          exact this
    · rw [if_neg ha] at hTb hMb
      refine ⟨-1, I, I, ?_, ?_, h⟩
      · rw [e_T_set, hTa]
        simp only [Option.bind_some]
        rw [if_neg (by decide), hTb]
        rfl
      · rw [e_M_set, hMa]
        simp only [Option.bind_some]
        rw [if_neg (by decide), hMb]
        rfl
  · rw [if_neg hk] at hTa hMa
    refine ⟨-1, I, I, ?_, ?_, h⟩
    · rw [e_T_set, hTa]; rfl
    · rw [e_M_set, hMa]; rfl
end OPA
