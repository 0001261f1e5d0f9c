section MRK
variable {X : pm_XT} {I : pm_I}
theorem W_markLines {w : Int} (w8 : 0 ≤ w ∧ w < 8) (h : RlW1 I w) (l : 1 ≤ I 10 1 ∧ I 10 1 ≤ 10) : ∃ m J, f_W_markLines X (wk w) I = some (m, J) ∧ fr [74] I J ∧ (0 ≤ m ∧ m < I 10 1) ∧ (∀ s, 0 ≤ s → s < I 84 w → I (wk w + 1) s ≤ m ∧ J 74 (I (wk w + 1) s) ≠ 0) ∧ ∀ k, I 74 k ≠ 0 → J 74 k ≠ 0 := by
  obtain ⟨q1, q2, q3, q4, q5⟩ := h
  obtain ⟨c1, c2, c3, c4, c5, c6⟩ := c_wk w8
  have cl := (c_wkl X.2 w8).1
  have n74 : ¬ (wk w + 1) = 74 := by unfold wk; omega
  have n74' : ¬ (wk w) = 74 := by unfold wk; omega
  obtain ⟨⟨m, J⟩, g1, g2, g3, g4, g5, g6⟩ := pl_loop (σ := Int × pm_I) (fun i s => f_W_markLines_4 X (wk w) s.1 i s.2) (I 84 w) (fun i s => 0 ≤ i ∧ fr [74] I s.2 ∧ (0 ≤ s.1 ∧ s.1 < I 10 1) ∧ (∀ u, 0 ≤ u → u < i → I (wk w + 1) u ≤ s.1 ∧ s.2 74 (I (wk w + 1) u) ≠ 0) ∧ ∀ k, I 74 k ≠ 0 → s.2 74 k ≠ 0) (fun i s hi hp => by
    obtain ⟨m, J⟩ := s
    obtain ⟨p0, p1, p2, p3, p4⟩ := hp
    simp only at p1 p2 p3 p4
    have z := (q4 i p0 hi).1
    have e1 : J (wk w + 1) = I (wk w + 1) := p1 _ (by simpa using n74)
    have e0 : J (wk w) = I (wk w) := p1 _ (by simpa using n74')
    show ∃ s' : Int × pm_I, f_W_markLines_4 X (wk w) m i J = f_W_markLines_4 X (wk w) s'.1 (i + 1) s'.2 ∧ _
    rw [e_W_markLines_4, c2, c3, c5, cl, e0, e1, q2.1]
    simp only [show Nat.beq 5 5 = true from rfl, show Nat.beq 8 8 = true from rfl, cond_true]
    rw [if_pos hi, if_pos (by omega), if_pos (by omega), if_pos (by omega), if_pos (by omega), up_rw _ n74, e1]
    generalize hK : pm_up J 74 (I (wk w + 1) i) 1 = K
    have K74 : ∀ k, K 74 k = if k = I (wk w + 1) i then 1 else J 74 k := fun k => by rw [← hK, up_at]
    have mono : ∀ k, J 74 k ≠ 0 → K 74 k ≠ 0 := fun k hk => by
      rw [K74]
      by_cases y : k = I (wk w + 1) i
      · rw [if_pos y]; decide
      · rw [if_neg y]; exact hk
    refine ⟨(_, K), rfl, by omega, by rw [← hK]; exact p1.up (by decide), by simp only; omega, fun u u0 u1 => ?_, fun k hk => mono k (p4 k hk)⟩
    by_cases y : u = i
    · refine ⟨by simp only; rw [y]; omega, ?_⟩
      show K 74 _ ≠ 0
      rw [K74, y, if_pos rfl]; decide
    · have := p3 u u0 (by omega)
      exact ⟨by simp only; omega, mono _ this.2⟩) (i := 0) (s := (0, I)) q2.2.1 ⟨Int.le_refl 0, fr.rf _ _, by simp only; omega, fun u u0 u1 => by omega, fun _ a => a⟩
  refine ⟨m, J, ?_, g3, g4, g5, g6⟩
  rw [e_W_markLines]
  refine g1.trans ?_
  show f_W_markLines_4 X (wk w) m (I 84 w) J = _
  have e0 : J (wk w) = I (wk w) := g3 _ (by simpa using n74')
  rw [e_W_markLines_4, c2, e0, q2.1]
  simp only [show Nat.beq 5 5 = true from rfl, cond_true]
  rw [if_neg (by omega)]
theorem U_markLines (hR : Rl I) (h : LK I) : ∃ J, f_U_markLines X I = some (0, J) ∧ fr [73, 74, 75] I J ∧ MK J := by
  obtain ⟨hG, hB, hT, hW, hS, hV⟩ := id hR
  have l := hB.2.1
  obtain ⟨J0, a1, a2, a3⟩ := pl_loop (fun i (J : pm_I) => f_U_markLines_2 X i J) 10 (fun i J => 0 ≤ i ∧ fr [73, 74] I J) (fun i J hi hp => by
    obtain ⟨p0, p1⟩ := hp
    show ∃ s', f_U_markLines_2 X i J = f_U_markLines_2 X (i + 1) s' ∧ _
    rw [e_U_markLines_2, if_pos hi, if_pos (by omega), if_pos (by omega)]
    exact ⟨_, rfl, by omega, p1.up (by decide)⟩) (i := 0) (s := I) (by omega) ⟨Int.le_refl 0, fr.rf _ _⟩
  obtain ⟨K, b1, b2, b3, b4⟩ := pl_loop (fun i (J : pm_I) => f_U_markLines_23 X i J) 8 (fun i J => 0 ≤ i ∧ fr [73, 74] I J ∧ ∀ w, 0 ≤ w → w < i → I 63 w ≠ 0 → (0 ≤ J 73 w ∧ J 73 w < I 10 1) ∧ ∀ s, 0 ≤ s → s < I 84 w → I (wk w + 1) s ≤ J 73 w ∧ J 74 (I (wk w + 1) s) ≠ 0) (fun i J hi hp => by
    obtain ⟨p0, p1, p2⟩ := hp
    have w8 : 0 ≤ i ∧ i < 8 := ⟨p0, hi⟩
    show ∃ s', f_U_markLines_23 X i J = f_U_markLines_23 X (i + 1) s' ∧ _
    rw [e_U_markLines_23, if_pos hi, if_pos w8, p1 63 (by decide)]
    by_cases z : I 63 i = 0
    · rw [if_pos z, if_pos (by omega)]
      refine ⟨_, rfl, by omega, p1, fun w w0 w1 hl => p2 w w0 ?_ hl⟩
      have : w ≠ i := fun e => hl (by rw [e]; exact z)
      omega
    · obtain ⟨c1, c2, -⟩ := c_wk w8
      have q := h.1 i p0 hi z
      have RJ : Rl J := hR.scr (p1.mono (by decide))
      have hw1 := RJ.2.2.2.1.2 i p0 (by rw [p1 3 (by decide)]; exact q.1)
      have ln0 := h.ln hW w8 z (s := 0) (by omega) q.2
      have e10 : J 10 = I 10 := p1 10 (by decide)
      have e84 : J 84 = I 84 := p1 84 (by decide)
      have ew : J (wk i + 1) = I (wk i + 1) := p1 _ (by simp only [List.mem_cons, List.not_mem_nil, or_false]; unfold wk; omega)
      obtain ⟨m, L, m1, m2, m3, m4, m5⟩ := W_markLines (X := X) w8 hw1 (by rw [e10]; omega)
      rw [e10] at m3
      rw [e84, ew] at m4
      rw [if_neg z, if_pos w8, c1, c2, m1]
      simp only [show Nat.beq 5 5 = true from rfl, cond_true, Option.bind_some]
      rw [if_pos w8, if_pos (by omega)]
      refine ⟨_, rfl, by omega, (p1.tr (m2.mono (by decide))).up (by decide), fun w w0 w1 hl => ?_⟩
      rw [up_at, up_rw _ (by decide)]
      by_cases y : w = i
      · rw [if_pos y, y]; exact ⟨m3, m4⟩
      · have r := p2 w w0 (by omega) hl
        rw [if_neg y, m2 73 (by decide)]
        exact ⟨r.1, fun s s0 s1 => ⟨(r.2 s s0 s1).1, m5 _ (r.2 s s0 s1).2⟩⟩) (i := 0) (s := J0) (by omega) ⟨Int.le_refl 0, a3, fun w w0 w1 => by omega⟩
  obtain ⟨M, d1, d2, d3, d4⟩ := pl_loop (fun i (J : pm_I) => f_U_markLines_62 X i J) 10 (fun i J => 0 ≤ i ∧ fr [75] K J ∧ ∀ k, 0 ≤ k → k < i → (J 75 k = 0 ↔ K 14 k = 0 ∧ K 74 k ≠ 0)) (fun i J hi hp => by
    obtain ⟨p0, p1, p2⟩ := hp
    have keep : ∀ v : Int, (v = 0 ↔ K 14 i = 0 ∧ K 74 i ≠ 0) → ∀ k, 0 ≤ k → k < i + 1 → (pm_up J 75 i v 75 k = 0 ↔ K 14 k = 0 ∧ K 74 k ≠ 0) := fun v hv k k0 k1 => by
      rw [up_at]
      by_cases y : k = i
      · rw [if_pos y, y]; exact hv
      · rw [if_neg y]; exact p2 k k0 (by omega)
    show ∃ s', f_U_markLines_62 X i J = f_U_markLines_62 X (i + 1) s' ∧ _
    rw [e_U_markLines_62, if_pos hi, if_pos (by omega), p1 14 (by decide), p1 74 (by decide)]
    by_cases z : K 14 i = 0
    · rw [if_pos z, if_pos (by omega)]
      by_cases y : K 74 i = 0
      · rw [if_pos y, if_pos (by omega), if_pos (by omega)]
        exact ⟨_, rfl, by omega, p1.up (by decide), keep 1 (by simp [y])⟩
      · rw [if_neg y, if_pos (by omega), if_pos (by omega)]
        exact ⟨_, rfl, by omega, p1.up (by decide), keep 0 (by simp [y, z])⟩
    · rw [if_neg z, if_pos (by omega), if_pos (by omega)]
      exact ⟨_, rfl, by omega, p1.up (by decide), keep 1 (by simp [z])⟩) (i := 0) (s := K) (by omega) ⟨Int.le_refl 0, fr.rf _ _, fun k k0 k1 => by omega⟩
  have f : fr [73, 74, 75] I M := (b3.mono (by decide)).tr (d3.mono (by decide))
  refine ⟨M, ?_, f, fun w w0 w1 => ?_, fun k k0 k1 => ?_⟩
  · rw [e_U_markLines]
    refine a1.trans ?_
    show f_U_markLines_2 X 10 J0 = _
    rw [e_U_markLines_2, if_neg (by omega)]
    refine b1.trans ?_
    show f_U_markLines_23 X 8 K = _
    rw [e_U_markLines_23, if_neg (by omega)]
    refine d1.trans ?_
    show f_U_markLines_62 X 10 M = _
    rw [e_U_markLines_62, if_neg (by omega)]
  · rw [f 63 (by decide), f 10 (by decide), f 84 (by decide), d3 73 (by decide), d3 74 (by decide), f (wk w + 1) (by simp only [List.mem_cons, List.not_mem_nil, or_false]; unfold wk; omega)]
    exact b4 w w0 w1
  · rw [d3 14 (by decide), d3 74 (by decide)]
    exact d4 k k0 k1
/-- the class's sum of all that is looked at -/
theorem T_sumLooked (hR : Rl I) (h : LK I) : ∃ J, f_T_sumLooked X I = some (SM (Gf I) (I 4 0).toNat (inT (I 11) (I 12)) (I 10 1).toNat 0 (fun _ => 0), J) ∧ fr [73, 74, 75, 76] I J := by
  obtain ⟨hG, hB, hT, hW, hS, hV⟩ := id hR
  have l := hB.2.1
  obtain ⟨J, j1, j2, j3⟩ := U_markLines (X := X) hR h
  have f4 : fr [73, 74, 75, 76] I J := j2.mono (by decide)
  have e10 : J 10 = I 10 := j2 10 (by decide)
  have RJ : Rl J := hR.scr (j2.mono (by decide))
  have LJ : LK J := h.fr f4
  obtain ⟨A, a1, a2, -⟩ := U_sumFrom (X := X) LJ RJ j3 (I 10 1).toNat 0 1 J (by rw [e10]; omega) (by omega) (fr.rf _ _) (fun k k0 k1 => by omega) (by
    rw [fp_ct (Q := fun _ => false) (t' := J 76) (fun w hw hl => decide_eq_false (by have := (j3.1 w (by omega) (by omega) hl).1; omega)) (fun _ _ _ q => by simp at q)]
    have : ∀ k : Nat, fp J (fun _ => false) (J 76) k = 1 := fun k => by
      induction k with
      | zero => rfl
      | succ k ih =>
        show fp J (fun _ => false) (J 76) k * (bif decide (J 63 k = 0) then 1 else bif false then J (65 + k) (wtt J (J 76) k) else 1) = 1
        rw [ih]
        cases decide (J 63 k = 0) <;> rfl
    rw [this])
  refine ⟨A, ?_, f4.tr (a2.mono (by decide))⟩
  rw [e_T_sumLooked, j1]
  simp only [Option.bind_some]
  rw [a1]
  simp only [Option.bind_some]
  have eG : Gf J = Gf I := funext (fun t => fp_fr f4 (Nat.le_refl 8))
  rw [eG, j2 4 (by decide), j2 11 (by decide), j2 12 (by decide), SM_cg (p := fun _ => True) (t' := fun _ => 0) (fun t t' q => fp_ct (fun _ _ _ => rfl) (fun w hw hl _ s s0 s1 => by
    have z := h.ln hW ⟨by omega, by omega⟩ hl s0 s1
    exact q _ z.1 (by omega) trivial)) (fun k k0 k1 => by omega)]
end MRK
