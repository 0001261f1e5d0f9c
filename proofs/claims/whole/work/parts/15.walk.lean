theorem lt8 {P : Nat → Prop} (h : ∀ n, n < 8 → P n) {w : Int} (hw : 0 ≤ w ∧ w < 8) : P w.toNat := h _ (by omega)
theorem c_wk {w : Int} (hw : 0 ≤ w ∧ w < 8) : pm_R 18 w.toNat = wk w ∧ pm_kd (wk w) = 5 ∧ pm_R (wk w) 4 = wk w + 1 ∧ pm_R (wk w) 5 = wk w + 2 ∧ pm_kd (wk w + 1) = 8 ∧ pm_kd (wk w + 2) = 9 :=
  lt8 (P := fun n => pm_R 18 n = 19 + 3 * n ∧ pm_kd (19 + 3 * n) = 5 ∧ pm_R (19 + 3 * n) 4 = 19 + 3 * n + 1 ∧ pm_R (19 + 3 * n) 5 = 19 + 3 * n + 2 ∧ pm_kd (19 + 3 * n + 1) = 8 ∧ pm_kd (19 + 3 * n + 2) = 9) (by decide) hw
theorem c_wkl (L : Int) {w : Int} (hw : 0 ≤ w ∧ w < 8) : pm_ln L (wk w + 1) = 6 ∧ pm_ln L (wk w + 2) = 6 :=
  lt8 (P := fun n => pm_ln L (19 + 3 * n + 1) = 6 ∧ pm_ln L (19 + 3 * n + 2) = 6) (fun n hn => by
    have : n = 0 ∨ n = 1 ∨ n = 2 ∨ n = 3 ∨ n = 4 ∨ n = 5 ∨ n = 6 ∨ n = 7 := by omega
    rcases this with q | q | q | q | q | q | q | q <;> subst q <;> exact ⟨rfl, rfl⟩) hw
theorem c_sh {k : Int} (hk : 0 ≤ k ∧ k < 4) : pm_R 53 k.toNat = sh k ∧ pm_kd (sh k) = 3 ∧ pm_R (sh k) 3 = sh k + 1 ∧ pm_kd (sh k + 1) = 8 :=
  (show ∀ n, n < 4 → pm_R 53 n = 54 + 2 * n ∧ pm_kd (54 + 2 * n) = 3 ∧ pm_R (54 + 2 * n) 3 = 54 + 2 * n + 1 ∧ pm_kd (54 + 2 * n + 1) = 8 by decide) k.toNat (by omega)
theorem c_shl (L : Int) {k : Int} (hk : 0 ≤ k ∧ k < 4) : pm_ln L (sh k + 1) = 64 :=
  (show ∀ n, n < 4 → pm_ln L (54 + 2 * n + 1) = 64 from fun n hn => by
    have : n = 0 ∨ n = 1 ∨ n = 2 ∨ n = 3 := by omega
    rcases this with q | q | q | q <;> subst q <;> rfl) k.toNat (by omega)
theorem c_ac {i : Int} (hi : 0 ≤ i ∧ i < 8) : pm_R 44 i.toNat = 45 + i.toNat ∧ pm_kd (45 + i.toNat) = 8 :=
  lt8 (P := fun n => pm_R 44 n = 45 + n ∧ pm_kd (45 + n) = 8) (by decide) hi
theorem c_acl (L : Int) {i : Int} (hi : 0 ≤ i ∧ i < 8) : pm_ln L (45 + i.toNat) = 10 :=
  lt8 (P := fun n => pm_ln L (45 + n) = 10) (fun n hn => by
    have : n = 0 ∨ n = 1 ∨ n = 2 ∨ n = 3 ∨ n = 4 ∨ n = 5 ∨ n = 6 ∨ n = 7 := by omega
    rcases this with q | q | q | q | q | q | q | q <;> subst q <;> rfl) hi
theorem c_fa {i : Int} (hi : 0 ≤ i ∧ i < 8) : pm_R 64 i.toNat = 65 + i.toNat ∧ pm_kd (65 + i.toNat) = 8 :=
  lt8 (P := fun n => pm_R 64 n = 65 + n ∧ pm_kd (65 + n) = 8) (by decide) hi
theorem c_fal (L : Int) {i : Int} (hi : 0 ≤ i ∧ i < 8) : pm_ln L (65 + i.toNat) = 8 :=
  lt8 (P := fun n => pm_ln L (65 + n) = 8) (fun n hn => by
    have : n = 0 ∨ n = 1 ∨ n = 2 ∨ n = 3 ∨ n = 4 ∨ n = 5 ∨ n = 6 ∨ n = 7 := by omega
    rcases this with q | q | q | q | q | q | q | q <;> subst q <;> rfl) hi
theorem RlW1.cg {I I' : pm_I} {w : Int} (h : RlW1 I w) (r0 : I' (wk w) = I (wk w)) (r1 : I' (wk w + 1) = I (wk w + 1)) (r2 : I' (wk w + 2) = I (wk w + 2)) (a0 : I' 10 0 = I 10 0) (a1 : I' 10 1 = I 10 1) (h11 : I' 11 = I 11) (h12 : I' 12 = I 12) (h83 : I' 83 w = I 83 w) (h84 : I' 84 w = I 84 w) (h87 : I' 87 w = I 87 w) (h8 : ∀ s, 0 ≤ s → s < I 84 w → I' 85 (6 * w + s) = I 85 (6 * w + s) ∧ I' 86 (6 * w + s) = I 86 (6 * w + s)) : RlW1 I' w := by
  obtain ⟨q1, q2, q3, q4, q5⟩ := h
  have ev : endv I' w = endv I w := by
    unfold endv
    rw [h83, h84, h11, h12]
    by_cases z : I 84 w = 0
    · rw [if_pos z, if_pos z]
    · rw [if_neg z, if_neg z]
      have q9 := h8 (I 84 w - 1) (by omega) (by omega)
      rw [show 6 * w + (I 84 w - 1) = 6 * w + I 84 w - 1 by omega] at q9
      rw [q9.1, q9.2]
  unfold RlW1
  rw [ev, r0, r1, r2, a0, a1, h83, h84, h87]
  exact ⟨q1, q2, q3, fun s s0 s1 => by rw [(h8 s s0 s1).1, (h8 s s0 s1).2]; exact q4 s s0 s1, q5⟩
section OPK
variable {X : pm_XT} {I : pm_I}
theorem W_begin {r : Nat} {p : Int} (h : pm_kd r = 5) : f_W_begin X r p I = some (0, pm_up (pm_up (pm_up (pm_up I r 0 p) r 1 p) r 2 0) r 3 1) := by
  rw [e_W_begin, h]
  rfl
theorem ok_walk (h : Rl I) {p : Int} : Ok (f_T_walk X p) (f_M_walk X p) I := by
  obtain ⟨hG, hB, hT, hW, hS, hV⟩ := id h
  have pb := hB.1
  have wb := hW.1
  have hTa := T_isPoint (X := X) (I := I) (a := p)
  have hMa := M_isPoint (X := X) (I := I) (a := p) (by omega)
  rw [pb.2.2] at hMa
  by_cases hp : 0 ≤ p ∧ p < I 10 0
  · rw [if_pos hp] at hTa hMa
    by_cases hw : I 3 3 < 8
    · obtain ⟨c1, c2, c3, c4, c5, c6⟩ := c_wk (w := I 3 3) ⟨wb.1, hw⟩
      have hwk : 19 ≤ wk (I 3 3) ∧ wk (I 3 3) ≤ 40 := by unfold wk; omega
      generalize hJ : pm_up (pm_up (pm_up (pm_up (pm_up I (wk (I 3 3)) 0 p) (wk (I 3 3)) 1 p) (wk (I 3 3)) 2 0) (wk (I 3 3)) 3 1) 3 3 (I 3 3 + 1) = J
      have f1 : fr [wk (I 3 3), 3] I J := by
        rw [← hJ]
        exact (((((fr.rf _ I).up (by simp)).up (by simp)).up (by simp)).up (by simp)).up (by simp)
      have n3 : ¬ (3 : Nat) = wk (I 3 3) := by omega
      have J33 : J 3 3 = I 3 3 + 1 := by rw [← hJ]; simp [up_of]
      have J77 : J 77 = I 77 := f1 77 (by simp; omega)
      have Jw : ∀ j, J (wk (I 3 3)) j = if j = 3 then 1 else if j = 2 then 0 else if j = 1 then p else if j = 0 then p else I (wk (I 3 3)) j := fun j => by
        rw [← hJ]
        simp only [up_of, true_and, show ¬ wk (I 3 3) = 3 by omega, false_and, ↓reduceIte]
      have eT : f_T_walk X p I = some (I 3 3, J) := by
        rw [e_T_walk, hTa]
        simp only [Option.bind_some]
        rw [if_neg (by decide), if_pos hw, if_pos (by omega), c1, c2, W_begin c2]
        simp only [Option.bind_some, up_of, n3, false_and, ↓reduceIte, and_self]
        rw [if_pos (by omega), if_pos (by omega), hJ]
        show some (I 3 3 + 1 - 1, J) = _
        congr 2
        omega
      have eM : f_M_walk X p J = some (I 3 3, pm_up (pm_up (pm_up (pm_up J 83 (I 3 3) p) 84 (I 3 3) 0) 87 (I 3 3) 1) 77 8 (I 3 3 + 1)) := by
        have hMa1 := M_isPoint (X := X) (I := J) (a := p) (by rw [J77]; omega)
        rw [J77, pb.2.2, if_pos hp] at hMa1
        rw [e_M_walk, hMa1]
        simp only [Option.bind_some, up_of, Nat.reduceEqDiff, false_and, true_and, and_self, ↓reduceIte, J77, wb.2.2]
        rw [if_neg (by decide), if_neg (by omega), if_pos (by omega), if_pos (by omega), if_pos (by omega), if_pos (by omega), if_pos (by omega)]
        congr 2
        omega
      refine ⟨_, _, _, eT, eM, ?_⟩
      generalize hK : pm_up (pm_up (pm_up (pm_up J 83 (I 3 3) p) 84 (I 3 3) 0) 87 (I 3 3) 1) 77 8 (I 3 3 + 1) = K
      have f2 : fr [83, 84, 87, 77] J K := by
        rw [← hK]
        exact ((((fr.rf _ J).up (by decide)).up (by decide)).up (by decide)).up (by decide)
      have f3 : fr [wk (I 3 3), 3, 83, 84, 87, 77] I K := (f1.mono (by simp)).tr (f2.mono (by simp))
      have nf : ∀ r, r ∉ [3, 83, 84, 87, 77] → ¬ (19 ≤ r ∧ r < 43) → r ∉ [wk (I 3 3), 3, 83, 84, 87, 77] := fun r h1 h2 => by
        simp only [List.mem_cons, List.not_mem_nil, or_false] at h1 ⊢
        omega
      have c0 : K 77 0 = I 77 0 := by rw [← hK]; simp [up_of, J77]
      have c3' : K 77 3 = I 77 3 := by rw [← hK]; simp [up_of, J77]
      have c4' : K 77 4 = I 77 4 := by rw [← hK]; simp [up_of, J77]
      have c14 : K 77 14 = I 77 14 := by rw [← hK]; simp [up_of, J77]
      have c8 : K 77 8 = I 3 3 + 1 := by rw [← hK]; simp [up_of]
      have k83 : ∀ j, K 83 j = if j = I 3 3 then p else I 83 j := fun j => by rw [← hK]; simp [up_of, f1 83 (by simp; omega)]
      have k84 : ∀ j, K 84 j = if j = I 3 3 then 0 else I 84 j := fun j => by rw [← hK]; simp [up_of, f1 84 (by simp; omega)]
      have k87 : ∀ j, K 87 j = if j = I 3 3 then 1 else I 87 j := fun j => by rw [← hK]; simp [up_of, f1 87 (by simp; omega)]
      have g : ∀ r, r ∉ [3, 83, 84, 87, 77] → ¬ (19 ≤ r ∧ r < 43) → K r = I r := fun r h1 h2 => f3 r (nf r h1 h2)
      refine ⟨hG.cg (by rw [g 4 (by decide) (by omega)]) (g 6 (by decide) (by omega)) (g 7 (by decide) (by omega)) (g 8 (by decide) (by omega)) c0 (g 78 (by decide) (by omega)),
        hB.cg (by rw [g 10 (by decide) (by omega)]) (by rw [g 10 (by decide) (by omega)]) (by rw [g 10 (by decide) (by omega)]) c3' c4' (g 11 (by decide) (by omega)) (g 12 (by decide) (by omega)) (g 14 (by decide) (by omega)) (g 15 (by decide) (by omega)) (g 80 (by decide) (by omega)) (g 81 (by decide) (by omega)),
        hT.cg (by rw [g 4 (by decide) (by omega)]) (by rw [g 10 (by decide) (by omega)]) (g 13 (by decide) (by omega)) (g 82 (by decide) (by omega)) (g 43 (by decide) (by omega)) (fun r a b => g r (by simp only [List.mem_cons, List.not_mem_nil, or_false]; omega) (by omega)) c14 (g 88 (by decide) (by omega)), ?_,
        hS.cg (fun r a b => g r (by simp only [List.mem_cons, List.not_mem_nil, or_false]; omega) (by omega)) (g 89 (by decide) (by omega)) (g 90 (by decide) (by omega)) (g 91 (by decide) (by omega)),
        hV.cg (by rw [g 4 (by decide) (by omega)]) (g 9 (by decide) (by omega)) (g 79 (by decide) (by omega))⟩
      have K33 : K 3 3 = I 3 3 + 1 := by rw [f2 3 (by decide), J33]
      have K10 : K 10 = I 10 := g 10 (by decide) (by omega)
      refine ⟨by rw [K33, c8]; omega, fun w w0 w1 => ?_⟩
      rw [K33] at w1
      by_cases z : w = I 3 3
      · subst z
        unfold RlW1
        have Kw : K (wk (I 3 3)) = J (wk (I 3 3)) := f2 _ (by simp only [List.mem_cons, List.not_mem_nil, or_false]; omega)
        have ev : endv K (I 3 3) = p := by
          unfold endv
          rw [k84, if_pos rfl, if_pos rfl, k83, if_pos rfl]
        rw [ev, Kw, Jw, Jw, Jw, Jw, k83, k84, k87, K10]
        simp only [if_true]
        refine ⟨⟨by simp, hp⟩, ⟨by simp, by omega, by omega⟩, ⟨by simp, by simp⟩, fun s s0 s1 => by omega, by simp⟩
      · have hlt : w < I 3 3 := by omega
        have old := hW.2 w w0 hlt
        have hne : ∀ d, d < 3 → K (wk w + d) = I (wk w + d) := fun d hd => f3 _ (by
          simp only [List.mem_cons, List.not_mem_nil, or_false]
          unfold wk
          omega)
        exact old.cg (hne 0 (by omega)) (hne 1 (by omega)) (hne 2 (by omega)) (by rw [K10]) (by rw [K10]) (g 11 (by decide) (by omega)) (g 12 (by decide) (by omega)) (by rw [k83, if_neg z]) (by rw [k84, if_neg z]) (by rw [k87, if_neg z]) (fun s _ _ => by rw [g 85 (by decide) (by omega), g 86 (by decide) (by omega)]; exact ⟨rfl, rfl⟩)
    · refine ⟨-3, I, I, ?_, ?_, h⟩
      · rw [e_T_walk, hTa]
        simp only [Option.bind_some]
        rw [if_neg (by decide), if_neg hw]
      · rw [e_M_walk, hMa]
        simp only [Option.bind_some]
        rw [if_neg (by decide), wb.2.2, if_pos (by omega)]
  · rw [if_neg hp] at hTa hMa
    refine ⟨-1, I, I, ?_, ?_, h⟩
    · rw [e_T_walk, hTa]; rfl
    · rw [e_M_walk, hMa]; rfl
theorem ok_drop (h : Rl I) : Ok (f_T_drop X) (f_M_drop X) I := by
  obtain ⟨hG, hB, hT, hW, hS, hV⟩ := id h
  have wb := hW.1
  by_cases hw : 0 < I 3 3
  · have eT : f_T_drop X I = some (I 3 3 - 1, pm_up I 3 3 (I 3 3 - 1)) := by
      rw [e_T_drop, if_pos hw, if_pos (by omega), up_eq]
    have eM : f_M_drop X (pm_up I 3 3 (I 3 3 - 1)) = some (I 3 3 - 1, pm_up (pm_up I 3 3 (I 3 3 - 1)) 77 8 (I 3 3 - 1)) := by
      rw [e_M_drop, up_rw _ (by decide), wb.2.2, if_neg (by omega), if_pos (by omega), up_eq]
    refine ⟨_, _, _, eT, eM, ?_⟩
    generalize hK : pm_up (pm_up I 3 3 (I 3 3 - 1)) 77 8 (I 3 3 - 1) = K
    have f : fr [3, 77] I K := by
      rw [← hK]
      exact ((fr.rf _ I).up (by decide)).up (by decide)
    have c : ∀ j, j ≠ 8 → K 77 j = I 77 j := fun j hj => by rw [← hK]; simp [up_of, hj]
    have e10 := f 10 (by decide)
    refine ⟨hG.cg (by rw [f 4 (by decide)]) (f 6 (by decide)) (f 7 (by decide)) (f 8 (by decide)) (c 0 (by decide)) (f 78 (by decide)), hB.cg (by rw [e10]) (by rw [e10]) (by rw [e10]) (c 3 (by decide)) (c 4 (by decide)) (f 11 (by decide)) (f 12 (by decide)) (f 14 (by decide)) (f 15 (by decide)) (f 80 (by decide)) (f 81 (by decide)),
      hT.cg (by rw [f 4 (by decide)]) (by rw [e10]) (f 13 (by decide)) (f 82 (by decide)) (f 43 (by decide)) (fun r a b => f r (by simp only [List.mem_cons, List.not_mem_nil, or_false]; omega)) (c 14 (by decide)) (f 88 (by decide)), ⟨?_, fun w w0 w1 => ?_⟩, hS.fr f (by decide), hV.fr f (by decide)⟩
    · have : K 3 3 = I 3 3 - 1 := by rw [← hK]; simp [up_of]
      have : K 77 8 = I 3 3 - 1 := by rw [← hK]; simp [up_of]
      omega
    · have : K 3 3 = I 3 3 - 1 := by rw [← hK]; simp [up_of]
      have g : ∀ r, 19 ≤ r → r < 43 → K r = I r := fun r a b => f r (by simp only [List.mem_cons, List.not_mem_nil, or_false]; omega)
      exact (hW.2 w w0 (by omega)).cg (g _ (by unfold wk; omega) (by unfold wk; omega)) (g _ (by unfold wk; omega) (by unfold wk; omega)) (g _ (by unfold wk; omega) (by unfold wk; omega)) (by rw [e10]) (by rw [e10]) (f 11 (by decide)) (f 12 (by decide)) (by rw [f 83 (by decide)]) (by rw [f 84 (by decide)]) (by rw [f 87 (by decide)]) (fun s _ _ => by rw [f 85 (by decide), f 86 (by decide)]; exact ⟨rfl, rfl⟩)
  · refine ⟨-4, I, I, ?_, ?_, h⟩
    · rw [e_T_drop, if_neg hw]
    · rw [e_M_drop, wb.2.2, if_pos (by omega)]
end OPK
