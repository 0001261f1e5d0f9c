section OPS2
variable {X : pm_XT} {I : pm_I}
theorem W_go {w : Int} (w8 : 0 ≤ w ∧ w < 8) {a b c : Int} (hs : 0 ≤ I (wk w) 2 ∧ I (wk w) 2 < 6) (hb : b = 0 ∨ b = 1) : f_W_go X (wk w) a b c I = some (0, pm_up (pm_up (pm_up (pm_up I (wk w + 1) (I (wk w) 2) a) (wk w + 2) (I (wk w) 2) b) (wk w) 1 c) (wk w) 2 (I (wk w) 2 + 1)) := by
  obtain ⟨c1, c2, c3, c4, c5, c6⟩ := c_wk w8
  have cl := c_wkl X.2 w8
  have n1 : ¬ wk w = wk w + 1 := by omega
  have n2 : ¬ wk w = wk w + 2 := by omega
  rw [e_W_go, c2, c3, c4, c5, c6, cl.1, cl.2]
  simp only [show Nat.beq 5 5 = true from rfl, show Nat.beq 8 8 = true from rfl, show Nat.beq 9 9 = true from rfl, cond_true, up_of, n1, n2, false_and, true_and, ↓reduceIte]
  simp only [if_neg (show ¬ (2 : Int) = 1 by decide)]
  rw [if_pos hs.2, if_pos hs, if_pos hs, if_pos hb, if_pos (by omega)]
theorem ok_step (h : Rl I) {w k b : Int} (hb : b = 0 ∨ b = 1) : Ok (f_T_step X w k b) (f_M_step X w k b) I := by
  obtain ⟨hG, hB, hT, hW, hS, hV⟩ := id h
  have wb := hW.1
  have l := hB.2.1
  have hTa := T_isWalk (X := X) (I := I) (a := w)
  have hMa := M_isWalk (X := X) (I := I) (a := w) (by omega)
  rw [wb.2.2] at hMa
  by_cases hw : 0 ≤ w ∧ w < I 3 3
  · rw [if_pos hw] at hTa hMa
    have hTb := T_isLine (X := X) (I := I) (a := k)
    have hMb := M_isLine (X := X) (I := I) (a := k) (by omega)
    rw [l.2.2] at hMb
    by_cases hk : 0 ≤ k ∧ k < I 10 1
    · rw [if_pos hk] at hTb hMb
      have w8 : 0 ≤ w ∧ w < 8 := by omega
      obtain ⟨c1, c2, -⟩ := c_wk w8
      have hw1 := hW.2 w hw.1 hw.2
      obtain ⟨q1, q2, q3, q4, q5⟩ := id hw1
      have hwk : 19 ≤ wk w ∧ wk w ≤ 40 := by unfold wk; omega
      have eE := M_endOf (X := X) hB w8 hw1
      have bk := hB.2.2.1 k hk.1 hk.2
      -- where the step begins and ends
      obtain ⟨bg, en, hbg, hen, hT0, hM0⟩ : ∃ bg en, (bg = if b = 0 then I 11 k else I 12 k) ∧ (en = if b = 0 then I 12 k else I 11 k) ∧
          (f_T_step X w k b I = if bg = endv I w then (if I 84 w < 6 then (f_W_go X (wk w) k b en I).bind (fun x => some (x.2 (wk w) 2, x.2)) else some (-3, I)) else some (-2, I)) ∧
          (∀ J, fr [wk w, wk w + 1, wk w + 2] I J → f_M_step X w k b J = if bg = endv I w then (if I 84 w = 6 then some (-3, J) else some (I 84 w + 1, pm_up (pm_up (pm_up J 85 (6 * w + I 84 w) k) 86 (6 * w + I 84 w) b) 84 w (I 84 w + 1))) else some (-2, J)) := by
        refine ⟨_, _, rfl, rfl, ?_, fun J fJ => ?_⟩
        · rw [e_T_step, hTa]
          simp only [Option.bind_some]
          rw [if_neg (by decide), hTb]
          simp only [Option.bind_some]
          rw [if_neg (by decide), if_pos w8, c1, c2, q5, q2.1]
          simp only [show Nat.beq 5 5 = true from rfl, cond_true, if_pos (show 0 ≤ k ∧ k < 10 by omega)]
          by_cases z : b = 0
          · simp only [if_pos z]
          · simp only [if_neg z]
        · have o : ∀ r, ¬ (19 ≤ r ∧ r < 43) → J r = I r := fun r hr => fJ r (by simp only [List.mem_cons, List.not_mem_nil, or_false]; omega)
          have J77 := o 77 (by omega)
          have hMa1 := M_isWalk (X := X) (I := J) (a := w) (by rw [J77]; omega)
          have hMb1 := M_isLine (X := X) (I := J) (a := k) (by rw [J77]; omega)
          rw [J77, wb.2.2, if_pos hw] at hMa1
          rw [J77, l.2.2, if_pos hk] at hMb1
          -- the end does not read the class's walks
          have eE1 : f_M_endOf X w J = some (endv I w, J) := by
            have eE2 := eE
            rw [e_M_endOf] at eE2 ⊢
            rw [o 80 (by omega), o 81 (by omega), o 83 (by omega), o 84 (by omega), o 85 (by omega), o 86 (by omega)]
            have q9 : ¬ I 84 w = 0 → 0 ≤ I 85 (6 * w + I 84 w - 1) ∧ I 85 (6 * w + I 84 w - 1) < 10 := fun z => by
              have q9 := (q4 (I 84 w - 1) (by omega) (by omega)).1.2
              rw [show 6 * w + (I 84 w - 1) = 6 * w + I 84 w - 1 by omega] at q9
              omega
            rw [if_pos w8] at eE2 ⊢
            by_cases z : I 84 w = 0
            · rw [if_pos z, if_pos w8] at eE2 ⊢
              have := congrArg (Option.map (fun x : Int × pm_I => x.1)) eE2
              have : I 83 w = endv I w := by simpa using this
              rw [this]
            · have q9 := q9 z
              rw [if_neg z, if_pos (by omega), if_pos (by omega), if_pos (by omega), if_pos (by omega)] at eE2 ⊢
              by_cases y : I 86 (6 * w + I 84 w - 1) = 0
              · rw [if_pos y, if_pos (by omega), if_pos (by omega)] at eE2 ⊢
                have := congrArg (Option.map (fun x : Int × pm_I => x.1)) eE2
                have : I 81 (I 85 (6 * w + I 84 w - 1)) = endv I w := by simpa using this
                rw [this]
              · rw [if_neg y, if_pos (by omega), if_pos (by omega)] at eE2 ⊢
                have := congrArg (Option.map (fun x : Int × pm_I => x.1)) eE2
                have : I 80 (I 85 (6 * w + I 84 w - 1)) = endv I w := by simpa using this
                rw [this]
          have s6 := q2.2
          rw [e_M_step, hMa1]
          simp only [Option.bind_some]
          rw [if_neg (by decide), hMb1]
          simp only [Option.bind_some]
          rw [if_neg (by decide), eE1]
          simp only [Option.bind_some, o 80 (by omega), o 81 (by omega), bk.1.1, bk.1.2, up_of, Nat.reduceEqDiff, false_and, true_and, and_self, ↓reduceIte, o 84 (by omega), if_pos w8, if_pos (show 0 ≤ k ∧ k < 10 by omega), if_pos hb, if_pos (show pm_r32 (6 * w) by omega), if_pos (show pm_r32 (6 * w + I 84 w) by omega), if_pos (show pm_r32 (I 84 w + 1) by omega)]
          by_cases z : b = 0
          · simp only [if_pos z]
            by_cases y : I 11 k = endv I w
            · simp only [if_pos y]
              by_cases u : I 84 w = 6
              · simp only [if_pos u]
              · simp only [if_neg u, if_pos (show 0 ≤ 6 * w + I 84 w ∧ 6 * w + I 84 w < 48 by omega)]
            · simp only [if_neg y]
          · simp only [if_neg z]
            by_cases y : I 12 k = endv I w
            · simp only [if_pos y]
              by_cases u : I 84 w = 6
              · simp only [if_pos u]
              · simp only [if_neg u, if_pos (show 0 ≤ 6 * w + I 84 w ∧ 6 * w + I 84 w < 48 by omega)]
            · simp only [if_neg y]
      by_cases y : bg = endv I w
      · rw [if_pos y] at hT0
        simp only [if_pos y] at hM0
        by_cases u : I 84 w < 6
        · rw [if_pos u, W_go w8 (by rw [q2.1]; omega) hb] at hT0
          simp only [if_neg (show ¬ I 84 w = 6 by omega)] at hM0
          simp only [Option.bind_some, q2.1, up_eq] at hT0
          generalize hJ : pm_up (pm_up (pm_up (pm_up I (wk w + 1) (I 84 w) k) (wk w + 2) (I 84 w) b) (wk w) 1 en) (wk w) 2 (I 84 w + 1) = J at hT0
          have fJ : fr [wk w, wk w + 1, wk w + 2] I J := by
            rw [← hJ]
            exact ((((fr.rf _ I).up (by simp)).up (by simp)).up (by simp)).up (by simp)
          refine ⟨_, _, _, hT0, hM0 J fJ, ?_⟩
          generalize hK : pm_up (pm_up (pm_up J 85 (6 * w + I 84 w) k) 86 (6 * w + I 84 w) b) 84 w (I 84 w + 1) = K
          have f : fr [wk w, wk w + 1, wk w + 2, 84, 85, 86, 87] I K := by
            rw [← hK]
            exact (((fJ.mono (by simp)).up (by simp)).up (by simp)).up (by simp)
          have oJ : ∀ r, ¬ (19 ≤ r ∧ r < 43) → J r = I r := fun r hr => fJ r (by simp only [List.mem_cons, List.not_mem_nil, or_false]; omega)
          have k84 : ∀ j, K 84 j = if j = w then I 84 w + 1 else I 84 j := fun j => by rw [← hK, up_at, up_rw _ (by decide), up_rw _ (by decide), oJ 84 (by omega)]
          have k85 : ∀ j, K 85 j = if j = 6 * w + I 84 w then k else I 85 j := fun j => by rw [← hK, up_rw _ (by decide), up_rw _ (by decide), up_at, oJ 85 (by omega)]
          have k86 : ∀ j, K 86 j = if j = 6 * w + I 84 w then b else I 86 j := fun j => by rw [← hK, up_rw _ (by decide), up_at, up_rw _ (by decide), oJ 86 (by omega)]
          have o : ∀ r, ¬ (19 ≤ r ∧ r < 43) → r ≠ 84 → r ≠ 85 → r ≠ 86 → K r = I r := fun r h1 h2 h3 h4 => by rw [← hK, up_rw _ h2, up_rw _ h4, up_rw _ h3, oJ r h1]
          have oK : ∀ r, 19 ≤ r → r < 43 → K r = J r := fun r h1 h2 => by rw [← hK, up_rw _ (by omega), up_rw _ (by omega), up_rw _ (by omega)]
          have n1 : ¬ wk w = wk w + 1 := by omega
          have n2 : ¬ wk w = wk w + 2 := by omega
          have n3 : ¬ wk w + 1 = wk w := by omega
          have n4 : ¬ wk w + 2 = wk w := by omega
          have n5 : ¬ wk w + 1 = wk w + 2 := by omega
          have n6 : ¬ wk w + 2 = wk w + 1 := by omega
          have kw0 : ∀ j, K (wk w) j = if j = 2 then I 84 w + 1 else if j = 1 then en else I (wk w) j := fun j => by rw [oK _ (by omega) (by omega), ← hJ]; simp only [up_of, n1, n2, false_and, true_and, ↓reduceIte]
          have kw1 : ∀ j, K (wk w + 1) j = if j = I 84 w then k else I (wk w + 1) j := fun j => by rw [oK _ (by omega) (by omega), ← hJ]; simp only [up_of, n3, n5, false_and, true_and, ↓reduceIte]
          have kw2 : ∀ j, K (wk w + 2) j = if j = I 84 w then b else I (wk w + 2) j := fun j => by rw [oK _ (by omega) (by omega), ← hJ]; simp only [up_of, n4, n6, false_and, true_and, ↓reduceIte]
          have e10 := o 10 (by omega) (by decide) (by decide) (by decide)
          refine h.walk hw f (fun j hj => by rw [k84, if_neg hj]) (fun j _ => by rw [o 87 (by omega) (by decide) (by decide) (by decide)]) (fun u' s u0 u1 u2 s0 s1 => by rw [k85, k86, if_neg (by omega), if_neg (by omega)]; exact ⟨rfl, rfl⟩) ?_
          have ev : endv K w = en := by
            unfold endv
            rw [k84, if_pos rfl, if_neg (by omega), show 6 * w + (I 84 w + 1) - 1 = 6 * w + I 84 w by omega, k86, k85, if_pos rfl, if_pos rfl, o 11 (by omega) (by decide) (by decide) (by decide), o 12 (by omega) (by decide) (by decide) (by decide), hen]
          unfold RlW1
          rw [ev, kw0, kw0, kw0, kw0, k84, if_pos rfl, o 83 (by omega) (by decide) (by decide) (by decide), o 87 (by omega) (by decide) (by decide) (by decide), e10]
          simp only [if_neg (show ¬ (0 : Int) = 2 by decide), if_neg (show ¬ (0 : Int) = 1 by decide), if_neg (show ¬ (3 : Int) = 2 by decide), if_neg (show ¬ (3 : Int) = 1 by decide), if_neg (show ¬ (1 : Int) = 2 by decide), if_true]
          refine ⟨q1, ⟨trivial, by omega, by omega⟩, q3, fun s s0 s1 => ?_, trivial⟩
          rw [kw1, kw2, k85, k86]
          by_cases z : s = I 84 w
          · rw [if_pos z, if_pos z, if_pos (by omega), if_pos (by omega)]
            exact ⟨⟨rfl, hk⟩, rfl, hb⟩
          · rw [if_neg z, if_neg z, if_neg (by omega), if_neg (by omega)]
            exact q4 s s0 (by omega)
        · rw [if_neg u] at hT0
          have hM1 := hM0 I (fr.rf _ _)
          rw [if_pos (by omega)] at hM1
          exact ⟨_, _, _, hT0, hM1, h⟩
      · rw [if_neg y] at hT0
        have hM1 := hM0 I (fr.rf _ _)
        rw [if_neg y] at hM1
        exact ⟨_, _, _, hT0, hM1, h⟩
    · rw [if_neg hk] at hTb hMb
      refine ⟨-1, I, I, ?_, ?_, h⟩
      · rw [e_T_step, hTa]
        simp only [Option.bind_some]
        rw [if_neg (by decide), hTb]
        rfl
      · rw [e_M_step, hMa]
        simp only [Option.bind_some]
        rw [if_neg (by decide), hMb]
        rfl
  · rw [if_neg hw] at hTa hMa
    refine ⟨-1, I, I, ?_, ?_, h⟩
    · rw [e_T_step, hTa]; rfl
    · rw [e_M_step, hMa]; rfl
end OPS2
