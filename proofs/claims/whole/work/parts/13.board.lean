theorem up_of (I : pm_I) (r q : Nat) (k v j : Int) : pm_up I r k v q j = if q = r ∧ j = k then v else I q j := rfl
theorem RlG.fr {I I' : pm_I} {rs : List Nat} (h : RlG I) (f : fr rs I I') (d : ∀ r ∈ [4, 6, 7, 8, 77, 78], r ∉ rs) : RlG I' :=
  h.cg (by rw [f 4 (d 4 (by decide))]) (f 6 (d 6 (by decide))) (f 7 (d 7 (by decide))) (f 8 (d 8 (by decide))) (by rw [f 77 (d 77 (by decide))]) (f 78 (d 78 (by decide)))
theorem RlB.fr {I I' : pm_I} {rs : List Nat} (h : RlB I) (f : fr rs I I') (d : ∀ r ∈ [10, 77, 11, 12, 14, 15, 80, 81], r ∉ rs) : RlB I' := by
  have e10 := f 10 (d 10 (by decide))
  have e77 := f 77 (d 77 (by decide))
  exact h.cg (by rw [e10]) (by rw [e10]) (by rw [e10]) (by rw [e77]) (by rw [e77]) (f 11 (d 11 (by decide))) (f 12 (d 12 (by decide))) (f 14 (d 14 (by decide))) (f 15 (d 15 (by decide))) (f 80 (d 80 (by decide))) (f 81 (d 81 (by decide)))
theorem RlT.fr {I I' : pm_I} {rs : List Nat} (h : RlT I) (f : fr rs I I') (d : ∀ r ∈ [4, 10, 13, 82, 43, 77, 88, 45, 46, 47, 48, 49, 50, 51, 52], r ∉ rs) : RlT I' :=
  h.cg (by rw [f 4 (d 4 (by decide))]) (by rw [f 10 (d 10 (by decide))]) (f 13 (d 13 (by decide))) (f 82 (d 82 (by decide))) (f 43 (d 43 (by decide))) (fun r a b => f r (d r (by simp only [List.mem_cons, List.not_mem_nil, or_false]; omega))) (by rw [f 77 (d 77 (by decide))]) (f 88 (d 88 (by decide)))
theorem RlW.fr {I I' : pm_I} {rs : List Nat} (h : RlW I) (f : fr rs I I') (d : ∀ r ∈ [3, 77, 10, 11, 12, 83, 84, 85, 86, 87, 19, 20, 21, 22, 23, 24, 25, 26, 27, 28, 29, 30, 31, 32, 33, 34, 35, 36, 37, 38, 39, 40, 41, 42], r ∉ rs) : RlW I' := by
  have e10 := f 10 (d 10 (by decide))
  exact h.cg (by rw [f 3 (d 3 (by decide))]) (by rw [f 77 (d 77 (by decide))]) (by rw [e10]) (by rw [e10]) (f 11 (d 11 (by decide))) (f 12 (d 12 (by decide))) (fun r a b => f r (d r (by simp only [List.mem_cons, List.not_mem_nil, or_false]; omega))) (f 83 (d 83 (by decide))) (f 84 (d 84 (by decide))) (f 85 (d 85 (by decide))) (f 86 (d 86 (by decide))) (f 87 (d 87 (by decide)))
theorem RlS.fr {I I' : pm_I} {rs : List Nat} (h : RlS I) (f : fr rs I I') (d : ∀ r ∈ [54, 55, 56, 57, 58, 59, 60, 61, 89, 90, 91], r ∉ rs) : RlS I' :=
  h.cg (fun r a b => f r (d r (by simp only [List.mem_cons, List.not_mem_nil, or_false]; omega))) (f 89 (d 89 (by decide))) (f 90 (d 90 (by decide))) (f 91 (d 91 (by decide)))
theorem RlV.fr {I I' : pm_I} {rs : List Nat} (h : RlV I) (f : fr rs I I') (d : ∀ r ∈ [4, 9, 79], r ∉ rs) : RlV I' :=
  h.cg (by rw [f 4 (d 4 (by decide))]) (f 9 (d 9 (by decide))) (f 79 (d 79 (by decide)))
/-- more points or lines are there: turns and walks stay as they are -/
theorem RlT.more {I I' : pm_I} (h : RlT I) (h4 : I' 4 0 = I 4 0) (h10 : I 10 1 ≤ I' 10 1) (h13 : ∀ k, 0 ≤ k → k < 10 → I' 13 k = I 13 k) (h82 : ∀ k, 0 ≤ k → k < 10 → I' 82 k = I 82 k) (h43 : I' 43 = I 43) (hr : ∀ r, 45 ≤ r → r < 53 → I' r = I r) (h77 : I' 77 14 = I 77 14) (h88 : I' 88 = I 88) : RlT I' := by
  obtain ⟨t1, t2, t3⟩ := h
  refine ⟨fun k k0 k1 => ?_, by rw [h43, h77]; exact t2, fun i k i0 i1 k0 k1 => ?_⟩
  · rw [h82 k k0 k1, h13 k k0 k1, h4]
    have := t1 k k0 k1
    exact ⟨this.1, this.2.1, fun q => this.2.2 (by omega)⟩
  · rw [h43] at i1
    have e : arow I' i = arow I i := by unfold arow; rw [h43]
    rw [e, h88, h4, hr (arow I i) (by unfold arow; omega) (by unfold arow; omega)]
    have := t3 i k i0 i1 k0 k1
    exact ⟨this.1, this.2.1, fun q => this.2.2 (by omega)⟩
theorem RlW.more {I I' : pm_I} (h : RlW I) (h3 : I' 3 3 = I 3 3) (h77 : I' 77 8 = I 77 8) (a0 : I 10 0 ≤ I' 10 0) (a1 : I 10 1 ≤ I' 10 1) (h11 : ∀ k, 0 ≤ k → k < I 10 1 → I' 11 k = I 11 k ∧ I' 12 k = I 12 k) (hr : ∀ r, 19 ≤ r → r < 43 → I' r = I r) (h83 : I' 83 = I 83) (h84 : I' 84 = I 84) (h85 : I' 85 = I 85) (h86 : I' 86 = I 86) (h87 : I' 87 = I 87) : RlW I' := by
  obtain ⟨w1, w2⟩ := h
  refine ⟨by rw [h3, h77]; exact w1, fun w w0 w9 => ?_⟩
  rw [h3] at w9
  obtain ⟨q1, q2, q3, q4, q5⟩ := w2 w w0 w9
  have ev : endv I' w = endv I w := by
    unfold endv
    rw [h83, h84, h85, h86]
    by_cases z : I 84 w = 0
    · rw [if_pos z, if_pos z]
    · rw [if_neg z, if_neg z]
      have q9 := (q4 (I 84 w - 1) (by omega) (by omega)).1.2
      rw [show 6 * w + (I 84 w - 1) = 6 * w + I 84 w - 1 by omega] at q9
      rw [(h11 _ q9.1 q9.2).1, (h11 _ q9.1 q9.2).2]
  unfold RlW1
  rw [ev, hr (wk w) (by unfold wk; omega) (by unfold wk; omega), hr (wk w + 1) (by unfold wk; omega) (by unfold wk; omega), hr (wk w + 2) (by unfold wk; omega) (by unfold wk; omega), h83, h84, h85, h86, h87]
  exact ⟨⟨q1.1, q1.2.1, by omega⟩, q2, q3, fun s s0 s1 => ⟨⟨(q4 s s0 s1).1.1, (q4 s s0 s1).1.2.1, by have := (q4 s s0 s1).1.2.2; omega⟩, (q4 s s0 s1).2⟩, q5⟩
section OPB
variable {X : pm_XT} {I : pm_I}
theorem ok_point (h : Rl I) : Ok (f_T_point X) (f_M_point X) I := by
  obtain ⟨hG, hB, hT, hW, hS, hV⟩ := h
  obtain ⟨⟨p0, p1, p2⟩, ⟨l0, l1, l2⟩, b3, b4, b5, b6⟩ := id hB
  by_cases q : I 10 0 < 6
  · have e1 : f_T_point X I = some (I 10 0, pm_up (pm_up I 15 (I 10 0) (I 10 0)) 10 0 (I 10 0 + 1)) := by
      rw [e_T_point, if_pos q, e_B_addPoint]
      simp only [up_of, Nat.reduceEqDiff, false_and, true_and, and_self, ↓reduceIte]
      rw [if_pos (by omega), if_pos (by omega), if_pos (by omega)]
      simp only [Option.bind_some]
      congr 2
      omega
    generalize hJ : pm_up (pm_up I 15 (I 10 0) (I 10 0)) 10 0 (I 10 0 + 1) = J at e1
    have J77 : J 77 = I 77 := by rw [← hJ, up_rw _ (by decide), up_rw _ (by decide)]
    have e2 : f_M_point X J = some (I 10 0, pm_up J 77 3 (I 10 0 + 1)) := by
      rw [e_M_point, J77, p2]
      simp only [up_of, and_self, ↓reduceIte]
      rw [if_neg (by omega), if_pos (by omega), if_pos (by omega)]
      congr 2
      omega
    refine ⟨_, _, _, e1, e2, ?_⟩
    have f1 : fr [15, 10, 77] I (pm_up J 77 3 (I 10 0 + 1)) := by
      rw [← hJ]
      exact (((fr.rf _ I).up (by decide)).up (by decide)).up (by decide)
    generalize hK : pm_up J 77 3 (I 10 0 + 1) = K at f1
    have a0 : K 10 0 = I 10 0 + 1 := by rw [← hK, ← hJ]; simp only [up_of, Nat.reduceEqDiff, false_and, and_self, ↓reduceIte]
    have a1 : K 10 1 = I 10 1 := by rw [← hK, ← hJ]; simp [up_of]
    have a2 : K 10 2 = I 10 2 := by rw [← hK, ← hJ]; simp [up_of]
    have c0 : K 77 0 = I 77 0 := by rw [← hK, ← hJ]; simp [up_of]
    have c3 : K 77 3 = I 10 0 + 1 := by rw [← hK]; simp [up_of]
    have c4 : K 77 4 = I 77 4 := by rw [← hK, ← hJ]; simp [up_of]
    have c8 : K 77 8 = I 77 8 := by rw [← hK, ← hJ]; simp [up_of]
    have c14 : K 77 14 = I 77 14 := by rw [← hK, ← hJ]; simp [up_of]
    have c15 : ∀ p, K 15 p = if p = I 10 0 then I 10 0 else I 15 p := fun p => by rw [← hK, ← hJ]; simp [up_of]
    have e11 := f1 11 (by decide)
    have e12 := f1 12 (by decide)
    refine ⟨hG.cg (by rw [f1 4 (by decide)]) (f1 6 (by decide)) (f1 7 (by decide)) (f1 8 (by decide)) c0 (f1 78 (by decide)), ?_, ?_, ?_, hS.fr f1 (by decide), hV.fr f1 (by decide)⟩
    · refine ⟨by rw [a0, c3]; omega, by rw [a1, c4]; exact ⟨l0, l1, l2⟩, fun k k0 k1 => ?_, fun p q0 q1 => ?_, fun k k0 k1 => ?_, ?_⟩
      · rw [a1] at k1
        rw [f1 80 (by decide), f1 81 (by decide), e11, e12, a0]
        have := b3 k k0 k1
        exact ⟨this.1, by omega, by omega⟩
      · rw [a0] at q1
        rw [c15, e11, e12, a1]
        by_cases z : p = I 10 0
        · rw [if_pos z]
          have := (pt_r (f := I 11) (t := I 12) (n := I 10 0) (j := (I 10 1).toNat) (fun i hi => (b3 i (by omega) (by omega)).2) p (by omega)).2 (by omega)
          omega
        · rw [if_neg z]
          exact b4 p q0 (by omega)
      · rw [a1] at k1
        rw [f1 14 (by decide), e11, e12]
        exact b5 k k0 k1
      · rw [a2, a1, e11, e12]
        exact b6
    · exact hT.more (by rw [f1 4 (by decide)]) (by omega) (fun k _ _ => by rw [f1 13 (by decide)]) (fun k _ _ => by rw [f1 82 (by decide)]) (f1 43 (by decide)) (fun r a b => f1 r (by simp only [List.mem_cons, List.not_mem_nil, or_false]; omega)) c14 (f1 88 (by decide))
    · exact hW.more (by rw [f1 3 (by decide)]) c8 (by omega) (by omega) (fun k _ _ => by rw [e11, e12]; exact ⟨rfl, rfl⟩) (fun r a b => f1 r (by simp only [List.mem_cons, List.not_mem_nil, or_false]; omega)) (f1 83 (by decide)) (f1 84 (by decide)) (f1 85 (by decide)) (f1 86 (by decide)) (f1 87 (by decide))
  · refine ⟨-3, I, I, ?_, ?_, ⟨hG, hB, hT, hW, hS, hV⟩⟩
    · rw [e_T_point, if_neg q]
    · rw [e_M_point, p2, if_pos (by omega)]
theorem B_joinParts {a b : Int} (hp : 0 ≤ I 10 0 ∧ I 10 0 ≤ 6) : ∃ I', f_B_joinParts X a b I = some (0, I') ∧ fr [15] I I' ∧ ∀ p, I' 15 p = if (0 ≤ p ∧ p < I 10 0) ∧ (I 15 p = a ∨ I 15 p = b) then min a b else I 15 p := by
  obtain ⟨J, h1, h2, h3, h4⟩ := pl_loop (fun i (J : pm_I) => f_B_joinParts_9 X a b (min a b) i J) (I 10 0) (fun i J => 0 ≤ i ∧ fr [15] I J ∧ ∀ p, J 15 p = if (0 ≤ p ∧ p < i) ∧ (I 15 p = a ∨ I 15 p = b) then min a b else I 15 p) (fun i J hi hp => by
    obtain ⟨p0, p1, p2⟩ := hp
    have e10 : J 10 = I 10 := p1 10 (by decide)
    have ei : J 15 i = I 15 i := by rw [p2 i, if_neg (fun z => by omega)]
    show ∃ s', f_B_joinParts_9 X a b (min a b) i J = f_B_joinParts_9 X a b (min a b) (i + 1) s' ∧ _
    rw [e_B_joinParts_9, e10, ei, if_pos hi, if_pos (by omega)]
    have hyes : (I 15 i = a ∨ I 15 i = b) → 0 ≤ i + 1 ∧ fr [15] I (pm_up J 15 i (min a b)) ∧ ∀ p, pm_up J 15 i (min a b) 15 p = if (0 ≤ p ∧ p < i + 1) ∧ (I 15 p = a ∨ I 15 p = b) then min a b else I 15 p := fun q => by
      refine ⟨by omega, p1.up (by decide), fun k => ?_⟩
      rw [up_at, p2 k]
      by_cases hk : k = i
      · subst hk
        rw [if_pos rfl, if_pos ⟨by omega, q⟩]
      · rw [if_neg hk]
        by_cases hz : (0 ≤ k ∧ k < i) ∧ (I 15 k = a ∨ I 15 k = b)
        · rw [if_pos hz, if_pos ⟨by omega, hz.2⟩]
        · rw [if_neg hz, if_neg (fun z => hz ⟨by omega, z.2⟩)]
    by_cases qa : I 15 i = a
    · rw [if_pos qa, if_pos (by omega), if_pos (by omega)]
      exact ⟨_, rfl, hyes (Or.inl qa)⟩
    · rw [if_neg qa, if_pos (by omega)]
      by_cases qb : I 15 i = b
      · rw [if_pos qb, if_pos (by omega), if_pos (by omega)]
        exact ⟨_, rfl, hyes (Or.inr qb)⟩
      · rw [if_neg qb, if_pos (by omega)]
        refine ⟨_, rfl, by omega, p1, fun k => ?_⟩
        rw [p2 k]
        by_cases hz : (0 ≤ k ∧ k < i) ∧ (I 15 k = a ∨ I 15 k = b)
        · rw [if_pos hz, if_pos ⟨by omega, hz.2⟩]
        · rw [if_neg hz, if_neg (fun z => hz ⟨by
            have : k ≠ i := fun e => by rw [e] at z; exact z.2.elim qa qb
            omega, z.2⟩)]) (i := 0) (s := I) hp.1 ⟨Int.le_refl 0, fr.rf _ _, fun k => by rw [if_neg (fun z => by omega)]⟩
  refine ⟨J, ?_, h3, h4⟩
  rw [e_B_joinParts]
  refine h1.trans ?_
  show f_B_joinParts_9 X a b (min a b) (I 10 0) J = _
  rw [e_B_joinParts_9, h3 10 (by decide), if_neg (by omega)]
/-- a line comes: what is so behind it -/
theorem B_addLine (hB : RlB I) {a b : Int} (hl : I 10 1 < 10) (ha : 0 ≤ a ∧ a < I 10 0) (hb : 0 ≤ b ∧ b < I 10 0) : ∃ J, f_B_addLine X a b I = some (I 10 1, J) ∧ fr [10, 11, 12, 13, 14, 15] I J ∧ J 10 0 = I 10 0 ∧ J 10 1 = I 10 1 + 1 ∧ (J 10 2 = if I 15 a = I 15 b then I 10 2 else I 10 2 + 1) ∧
    (∀ k, J 11 k = if k = I 10 1 then a else I 11 k) ∧ (∀ k, J 12 k = if k = I 10 1 then b else I 12 k) ∧ (∀ k, J 13 k = if k = I 10 1 then 0 else I 13 k) ∧ (∀ k, J 14 k = if k = I 10 1 then (if I 15 a = I 15 b then 0 else 1) else I 14 k) ∧
    ∀ p, 0 ≤ p → p < I 10 0 → J 15 p = if I 15 p = I 15 a ∨ I 15 p = I 15 b then min (I 15 a) (I 15 b) else I 15 p := by
  obtain ⟨⟨p0, p1, p2⟩, ⟨l0, l1, l2⟩, b3, b4, b5, b6⟩ := hB
  have hc := cn_r (inT (I 11) (I 12)) (I 10 1).toNat
  rw [e_B_addLine]
  simp only [up_of, Nat.reduceEqDiff, false_and, true_and, and_self, ↓reduceIte]
  by_cases q : I 15 a = I 15 b
  · rw [if_pos (by omega), if_pos (by omega), if_pos (by omega), if_pos (by omega), if_pos (by omega), if_pos q, if_pos (by omega), if_pos (by omega), if_pos (by omega), if_pos (by omega)]
    refine ⟨_, by congr 2; omega, (((((fr.rf _ I).up (by decide)).up (by decide)).up (by decide)).up (by decide)).up (by decide), by simp [up_of], by simp [up_of], by simp [up_of, q], fun k => by simp [up_of], fun k => by simp [up_of], fun k => by simp [up_of], fun k => by simp [up_of, q], fun p _ _ => ?_⟩
    rw [up_rw _ (by decide), up_rw _ (by decide), up_rw _ (by decide), up_rw _ (by decide), up_rw _ (by decide), q]
    by_cases z : I 15 p = I 15 b
    · rw [if_pos (Or.inl z), z]; omega
    · rw [if_neg (fun y => y.elim z z)]
  · rw [if_pos (by omega), if_pos (by omega), if_pos (by omega), if_pos (by omega), if_pos (by omega), if_neg q, if_pos (by omega), if_pos (by omega), if_neg (by decide), if_pos (by omega), if_pos (by omega), if_pos (by omega)]
    generalize hK : pm_up (pm_up (pm_up (pm_up (pm_up I 11 (I 10 1) a) 12 (I 10 1) b) 13 (I 10 1) 0) 14 (I 10 1) 1) 10 2 (I 10 2 + 1) = K
    have fK : fr [10, 11, 12, 13, 14, 15] I K := by
      rw [← hK]
      exact (((((fr.rf _ I).up (by decide)).up (by decide)).up (by decide)).up (by decide)).up (by decide)
    have k0 : K 10 0 = I 10 0 := by rw [← hK]; simp [up_of]
    have k1 : K 10 1 = I 10 1 := by rw [← hK]; simp [up_of]
    have k2 : K 10 2 = I 10 2 + 1 := by rw [← hK]; simp [up_of]
    have k15 : K 15 = I 15 := by rw [← hK]; rw [up_rw _ (by decide), up_rw _ (by decide), up_rw _ (by decide), up_rw _ (by decide), up_rw _ (by decide)]
    obtain ⟨L, j1, j2, j3⟩ := B_joinParts (X := X) (I := K) (a := I 15 a) (b := I 15 b) (by rw [k0]; omega)
    have e10 : L 10 = K 10 := j2 10 (by decide)
    rw [j1]
    simp only [Option.bind_some]
    rw [e10, k1, if_pos (by omega), if_pos (by omega)]
    have hr : ∀ r, r ≠ 10 → r ≠ 15 → (pm_up L 10 1 (I 10 1 + 1)) r = K r := fun r h1 h2 => by rw [up_rw _ h1, j2 r (by simp [h2])]
    refine ⟨_, by congr 2; omega, (fK.tr (j2.mono (by decide))).up (by decide), ?_, ?_, ?_, ?_, ?_, ?_, ?_, ?_⟩
    · simp [up_of, e10, k0]
    · simp [up_of]
    · simp [up_of, e10, k2, q]
    · intro k; rw [hr 11 (by decide) (by decide), ← hK]; simp [up_of]
    · intro k; rw [hr 12 (by decide) (by decide), ← hK]; simp [up_of]
    · intro k; rw [hr 13 (by decide) (by decide), ← hK]; simp [up_of]
    · intro k; rw [hr 14 (by decide) (by decide), ← hK]; simp [up_of, q]
    · intro p q0 q1
      rw [up_rw _ (by decide), j3 p, k15, k0]
      by_cases z : I 15 p = I 15 a ∨ I 15 p = I 15 b
      · rw [if_pos ⟨⟨q0, q1⟩, z⟩, if_pos z]
      · rw [if_neg (fun y => z y.2), if_neg z]
theorem ok_line (h : Rl I) {a b : Int} : Ok (f_T_line X a b) (f_M_line X a b) I := by
  obtain ⟨hG, hB, hT, hW, hS, hV⟩ := id h
  obtain ⟨⟨p0, p1, p2⟩, ⟨l0, l1, l2⟩, b3, b4, b5, b6⟩ := id hB
  have hTa := T_isPoint (X := X) (I := I) (a := a)
  have hMa := M_isPoint (X := X) (I := I) (a := a) (by omega)
  rw [p2] at hMa
  by_cases ha : 0 ≤ a ∧ a < I 10 0
  · rw [if_pos ha] at hTa hMa
    have hTb := T_isPoint (X := X) (I := I) (a := b)
    have hMb := M_isPoint (X := X) (I := I) (a := b) (by omega)
    rw [p2] at hMb
    by_cases hb : 0 ≤ b ∧ b < I 10 0
    · rw [if_pos hb] at hTb hMb
      by_cases hl : I 10 1 < 10
      · obtain ⟨J, j1, j2, j3, j4, j5, j6, j7, j8, j9, j10⟩ := B_addLine (X := X) hB hl ha hb
        have J77 : J 77 = I 77 := j2 77 (by decide)
        have hMa1 := M_isPoint (X := X) (I := J) (a := a) (by rw [J77]; omega)
        have hMb1 := M_isPoint (X := X) (I := J) (a := b) (by rw [J77]; omega)
        rw [J77, p2, if_pos ha] at hMa1
        rw [J77, p2, if_pos hb] at hMb1
        refine ⟨I 10 1, J, pm_up (pm_up (pm_up (pm_up J 80 (I 10 1) a) 81 (I 10 1) b) 82 (I 10 1) 0) 77 4 (I 10 1 + 1), ?_, ?_, ?_⟩
        · rw [e_T_line, hTa]
          simp only [Option.bind_some]
          rw [if_neg (by decide), hTb]
          simp only [Option.bind_some]
          rw [if_neg (by decide), if_pos hl, j1]
          rfl
        · rw [e_M_line, hMa1]
          simp only [Option.bind_some]
          rw [if_neg (by decide), hMb1]
          simp only [Option.bind_some, up_of, Nat.reduceEqDiff, false_and, true_and, and_self, ↓reduceIte, J77, l2]
          rw [if_neg (by decide), if_neg (by omega), if_pos (by omega), if_pos (by omega), if_pos (by omega), if_pos (by omega), if_pos (by omega)]
          congr 2
          omega
        · generalize hK : pm_up (pm_up (pm_up (pm_up J 80 (I 10 1) a) 81 (I 10 1) b) 82 (I 10 1) 0) 77 4 (I 10 1 + 1) = K
          have f0 : fr [80, 81, 82, 77] J K := by
            rw [← hK]
            exact ((((fr.rf _ J).up (by decide)).up (by decide)).up (by decide)).up (by decide)
          have f1 : fr [10, 11, 12, 13, 14, 15, 80, 81, 82, 77] I K := (j2.mono (by decide)).tr (f0.mono (by decide))
          have k80 : ∀ k, K 80 k = if k = I 10 1 then a else I 80 k := fun k => by rw [← hK]; simp [up_of, j2 80 (by decide)]
          have k81 : ∀ k, K 81 k = if k = I 10 1 then b else I 81 k := fun k => by rw [← hK]; simp [up_of, j2 81 (by decide)]
          have k82 : ∀ k, K 82 k = if k = I 10 1 then 0 else I 82 k := fun k => by rw [← hK]; simp [up_of, j2 82 (by decide)]
          have c0 : K 77 0 = I 77 0 := by rw [← hK]; simp [up_of, J77]
          have c3 : K 77 3 = I 77 3 := by rw [← hK]; simp [up_of, J77]
          have c4 : K 77 4 = I 10 1 + 1 := by rw [← hK]; simp [up_of]
          have c8 : K 77 8 = I 77 8 := by rw [← hK]; simp [up_of, J77]
          have c14 : K 77 14 = I 77 14 := by rw [← hK]; simp [up_of, J77]
          have e10 : K 10 = J 10 := f0 10 (by decide)
          have e11 : K 11 = J 11 := f0 11 (by decide)
          have e12 : K 12 = J 12 := f0 12 (by decide)
          have old : ∀ k, 0 ≤ k → k < I 10 1 → J 11 k = I 11 k ∧ J 12 k = I 12 k := fun k k0 k1 => by rw [j6, j7, if_neg (by omega), if_neg (by omega)]; exact ⟨rfl, rfl⟩
          have ptc : ∀ j : Nat, (j : Int) ≤ I 10 1 → ∀ p, pt (J 11) (J 12) j p = pt (I 11) (I 12) j p := fun j hj p => pt_congr (fun i hi => old i (by omega) (by omega)) p
          have inc : ∀ k, 0 ≤ k → k < I 10 1 → inT (J 11) (J 12) k = inT (I 11) (I 12) k := fun k k0 k1 => by
            unfold inT
            rw [(old k k0 k1).1, (old k k0 k1).2, ptc _ (by omega), ptc _ (by omega)]
          have eL : (I 10 1 + 1).toNat = (I 10 1).toNat + 1 := by omega
          have eN : (((I 10 1).toNat : Nat) : Int) = I 10 1 := by omega
          have new : inT (J 11) (J 12) (I 10 1) = decide (¬ I 15 a = I 15 b) := by
            unfold inT
            rw [j6, j7, if_pos rfl, if_pos rfl, ptc _ (by omega), ptc _ (by omega), ← b4 a ha.1 ha.2, ← b4 b hb.1 hb.2]
          refine ⟨hG.cg (by rw [f1 4 (by decide)]) (f1 6 (by decide)) (f1 7 (by decide)) (f1 8 (by decide)) c0 (f1 78 (by decide)), ?_, ?_, ?_, hS.fr f1 (by decide), hV.fr f1 (by decide)⟩
          · refine ⟨by rw [e10, j3, c3]; omega, by rw [e10, j4, c4]; omega, fun k k0 k1 => ?_, fun p q0 q1 => ?_, fun k k0 k1 => ?_, ?_⟩
            · rw [e10, j4] at k1
              rw [k80, k81, e11, e12, j6, j7, e10, j3]
              by_cases z : k = I 10 1
              · simp only [if_pos z]; exact ⟨⟨trivial, trivial⟩, ha, hb⟩
              · simp only [if_neg z]; exact b3 k k0 (by omega)
            · rw [e10, j3] at q1
              rw [f0 15 (by decide), j10 p q0 q1, e11, e12, e10, j4, eL]
              unfold pt
              rw [eN, j6, j7, if_pos rfl, if_pos rfl, ptc _ (by omega), ptc _ (by omega), ptc _ (by omega), ← b4 p q0 q1, ← b4 a ha.1 ha.2, ← b4 b hb.1 hb.2]
            · rw [e10, j4] at k1
              rw [f0 14 (by decide), j9, e11, e12]
              by_cases z : k = I 10 1
              · rw [if_pos z, z, new, bif_dec]
                by_cases y : I 15 a = I 15 b
                · rw [if_pos y, if_neg (fun w => w y)]
                · rw [if_neg y, if_pos y]
              · rw [if_neg z, inc k k0 (by omega)]
                exact b5 k k0 (by omega)
            · rw [e10, j5, j4, e11, e12, eL]
              show _ = cn (inT (J 11) (J 12)) (I 10 1).toNat + (bif inT (J 11) (J 12) (((I 10 1).toNat : Nat) : Int) then 1 else 0)
              rw [eN, new, bif_dec, cn_congr (q := inT (I 11) (I 12)) (fun i hi => inc i (by omega) (by omega)), ← b6]
              by_cases y : I 15 a = I 15 b
              · rw [if_pos y, if_neg (fun w => w y)]; omega
              · rw [if_neg y, if_pos y]
          · refine hT.more (by rw [f1 4 (by decide)]) (by rw [e10, j4]; omega) (fun k k0 k1 => ?_) (fun k k0 k1 => ?_) (f1 43 (by decide)) (fun r a b => f1 r (by simp only [List.mem_cons, List.not_mem_nil, or_false]; omega)) c14 (f1 88 (by decide))
            · rw [f0 13 (by decide), j8]
              by_cases z : k = I 10 1
              · rw [if_pos z]; exact ((hT.1 k k0 k1).2.2 (by omega)).symm
              · rw [if_neg z]
            · rw [k82]
              by_cases z : k = I 10 1
              · rw [if_pos z, (hT.1 k k0 k1).1]; exact ((hT.1 k k0 k1).2.2 (by omega)).symm
              · rw [if_neg z]
          · exact hW.more (by rw [f1 3 (by decide)]) c8 (by rw [e10, j3]; omega) (by rw [e10, j4]; omega) (fun k k0 k1 => by rw [e11, e12]; exact old k k0 k1) (fun r a b => f1 r (by simp only [List.mem_cons, List.not_mem_nil, or_false]; omega)) (f1 83 (by decide)) (f1 84 (by decide)) (f1 85 (by decide)) (f1 86 (by decide)) (f1 87 (by decide))
      · refine ⟨-3, I, I, ?_, ?_, h⟩
        · rw [e_T_line, hTa]
          simp only [Option.bind_some]
          rw [if_neg (by decide), hTb]
          simp only [Option.bind_some]
          rw [if_neg (by decide), if_neg hl]
        · rw [e_M_line, hMa]
          simp only [Option.bind_some]
          rw [if_neg (by decide), hMb]
          simp only [Option.bind_some]
          rw [if_neg (by decide), l2, if_pos (by omega)]
    · rw [if_neg hb] at hTb hMb
      refine ⟨-1, I, I, ?_, ?_, h⟩
      · rw [e_T_line, hTa]
        simp only [Option.bind_some]
        rw [if_neg (by decide), hTb]
        rfl
      · rw [e_M_line, hMa]
        simp only [Option.bind_some]
        rw [if_neg (by decide), hMb]
        rfl
  · rw [if_neg ha] at hTa hMa
    refine ⟨-1, I, I, ?_, ?_, h⟩
    · rw [e_T_line, hTa]; rfl
    · rw [e_M_line, hMa]; rfl
end OPB
