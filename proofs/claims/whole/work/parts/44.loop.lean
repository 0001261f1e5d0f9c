/-! THE LAW: all calls answer alike, the loop goes on -/
section LAW
variable {X : pm_XT} {I : pm_I}
theorem L_group (h : Rl I) {i : Int} (hi : 0 ≤ i ∧ i + 5 ≤ X.2) (hL : X.2 ≤ 2560) : ∃ J, f_L_160 X i I = f_L_1001 X i J ∧ Rl J := by
  obtain ⟨r, I1, I2, h1, h2, h3⟩ := ok_group (X := X) h (k := (pm_xv X.1 2 (i + 1))) (n := (pm_xv X.1 2 (i + 2)))
  refine ⟨I2, ?_, h3⟩
  rw [e_L_160]
  rw [if_pos (by omega), if_pos (by omega)]
  rw [if_pos (by omega), if_pos (by omega)]
  rw [h1]
  simp only [Option.bind_some]
  rw [if_pos (by omega), if_pos (by omega)]
  rw [if_pos (by omega), if_pos (by omega)]
  rw [h2]
  simp only [Option.bind_some]
  rw [if_pos (by trivial)]
theorem L_read (h : Rl I) {i : Int} (hi : 0 ≤ i ∧ i + 5 ≤ X.2) (hL : X.2 ≤ 2560) (hX : ∀ j, pm_r32 (X.1 j)) : ∃ J, f_L_193 X i I = f_L_1001 X i J ∧ Rl J := by
  obtain ⟨r, I1, I2, h1, h2, h3⟩ := ok_read (X := X) h (k := (pm_xv X.1 2 (i + 1))) (a := (pm_xv X.1 2 (i + 2))) (f := (pm_xv X.1 2 (i + 3))) (n := (pm_xv X.1 2 (i + 4))) (hX _)
  refine ⟨I2, ?_, h3⟩
  rw [e_L_193]
  rw [if_pos (by omega), if_pos (by omega)]
  rw [if_pos (by omega), if_pos (by omega)]
  rw [if_pos (by omega), if_pos (by omega)]
  rw [if_pos (by omega), if_pos (by omega)]
  rw [h1]
  simp only [Option.bind_some]
  rw [if_pos (by omega), if_pos (by omega)]
  rw [if_pos (by omega), if_pos (by omega)]
  rw [if_pos (by omega), if_pos (by omega)]
  rw [if_pos (by omega), if_pos (by omega)]
  rw [h2]
  simp only [Option.bind_some]
  rw [if_pos (by trivial)]
theorem L_times (h : Rl I) {i : Int} (hi : 0 ≤ i ∧ i + 5 ≤ X.2) (hL : X.2 ≤ 2560) : ∃ J, f_L_246 X i I = f_L_1001 X i J ∧ Rl J := by
  obtain ⟨r, I1, I2, h1, h2, h3⟩ := ok_times (X := X) h (a := (pm_xv X.1 2 (i + 1))) (b := (pm_xv X.1 2 (i + 2)))
  refine ⟨I2, ?_, h3⟩
  rw [e_L_246]
  rw [if_pos (by omega), if_pos (by omega)]
  rw [if_pos (by omega), if_pos (by omega)]
  rw [h1]
  simp only [Option.bind_some]
  rw [if_pos (by omega), if_pos (by omega)]
  rw [if_pos (by omega), if_pos (by omega)]
  rw [h2]
  simp only [Option.bind_some]
  rw [if_pos (by trivial)]
theorem L_turn (h : Rl I) {i : Int} (hi : 0 ≤ i ∧ i + 5 ≤ X.2) (hL : X.2 ≤ 2560) : ∃ J, f_L_279 X i I = f_L_1001 X i J ∧ Rl J := by
  obtain ⟨r, I1, I2, h1, h2, h3⟩ := ok_turn (X := X) h (a := (pm_xv X.1 2 (i + 1))) (b := (pm_xv X.1 2 (i + 2)))
  refine ⟨I2, ?_, h3⟩
  rw [e_L_279]
  rw [if_pos (by omega), if_pos (by omega)]
  rw [if_pos (by omega), if_pos (by omega)]
  rw [h1]
  simp only [Option.bind_some]
  rw [if_pos (by omega), if_pos (by omega)]
  rw [if_pos (by omega), if_pos (by omega)]
  rw [h2]
  simp only [Option.bind_some]
  rw [if_pos (by trivial)]
theorem L_about (h : Rl I) {i : Int} (hi : 0 ≤ i ∧ i + 5 ≤ X.2) (hL : X.2 ≤ 2560) : ∃ J, f_L_312 X i I = f_L_1001 X i J ∧ Rl J := by
  obtain ⟨r, I1, I2, h1, h2, h3⟩ := ok_about (X := X) h (a := (pm_xv X.1 2 (i + 1)))
  refine ⟨I2, ?_, h3⟩
  rw [e_L_312]
  rw [if_pos (by omega), if_pos (by omega)]
  rw [h1]
  simp only [Option.bind_some]
  rw [if_pos (by omega), if_pos (by omega)]
  rw [h2]
  simp only [Option.bind_some]
  rw [if_pos (by trivial)]
theorem L_worth (h : Rl I) {i : Int} (hi : 0 ≤ i ∧ i + 5 ≤ X.2) (hL : X.2 ≤ 2560) : ∃ J, f_L_335 X i I = f_L_1001 X i J ∧ Rl J := by
  obtain ⟨r, I1, I2, h1, h2, h3⟩ := ok_worth (X := X) h (a := (pm_xv X.1 2 (i + 1))) (v := (pm_xv X.1 2 (i + 2)))
  refine ⟨I2, ?_, h3⟩
  rw [e_L_335]
  rw [if_pos (by omega), if_pos (by omega)]
  rw [if_pos (by omega), if_pos (by omega)]
  rw [h1]
  simp only [Option.bind_some]
  rw [if_pos (by omega), if_pos (by omega)]
  rw [if_pos (by omega), if_pos (by omega)]
  rw [h2]
  simp only [Option.bind_some]
  rw [if_pos (by trivial)]
theorem L_point (h : Rl I) {i : Int} (hi : 0 ≤ i ∧ i + 5 ≤ X.2) (hL : X.2 ≤ 2560) : ∃ J, f_L_368 X i I = f_L_1001 X i J ∧ Rl J := by
  obtain ⟨r, I1, I2, h1, h2, h3⟩ := ok_point (X := X) h 
  refine ⟨I2, ?_, h3⟩
  rw [e_L_368]
  rw [h1]
  simp only [Option.bind_some]
  rw [h2]
  simp only [Option.bind_some]
  rw [if_pos (by trivial)]
theorem L_line (h : Rl I) {i : Int} (hi : 0 ≤ i ∧ i + 5 ≤ X.2) (hL : X.2 ≤ 2560) : ∃ J, f_L_381 X i I = f_L_1001 X i J ∧ Rl J := by
  obtain ⟨r, I1, I2, h1, h2, h3⟩ := ok_line (X := X) h (a := (pm_xv X.1 2 (i + 1))) (b := (pm_xv X.1 2 (i + 2)))
  refine ⟨I2, ?_, h3⟩
  rw [e_L_381]
  rw [if_pos (by omega), if_pos (by omega)]
  rw [if_pos (by omega), if_pos (by omega)]
  rw [h1]
  simp only [Option.bind_some]
  rw [if_pos (by omega), if_pos (by omega)]
  rw [if_pos (by omega), if_pos (by omega)]
  rw [h2]
  simp only [Option.bind_some]
  rw [if_pos (by trivial)]
theorem L_walk (h : Rl I) {i : Int} (hi : 0 ≤ i ∧ i + 5 ≤ X.2) (hL : X.2 ≤ 2560) : ∃ J, f_L_414 X i I = f_L_1001 X i J ∧ Rl J := by
  obtain ⟨r, I1, I2, h1, h2, h3⟩ := ok_walk (X := X) h (p := (pm_xv X.1 2 (i + 1)))
  refine ⟨I2, ?_, h3⟩
  rw [e_L_414]
  rw [if_pos (by omega), if_pos (by omega)]
  rw [h1]
  simp only [Option.bind_some]
  rw [if_pos (by omega), if_pos (by omega)]
  rw [h2]
  simp only [Option.bind_some]
  rw [if_pos (by trivial)]
theorem L_step (h : Rl I) {i : Int} (hi : 0 ≤ i ∧ i + 5 ≤ X.2) (hL : X.2 ≤ 2560) : ∃ J, f_L_437 X i I = f_L_1001 X i J ∧ Rl J := by
  have e := e_L_437 X i I
  rw [if_pos (by omega), if_pos (by omega)] at e
  rw [if_pos (by omega), if_pos (by omega)] at e
  rw [if_pos (by omega), if_pos (by omega)] at e
  by_cases z : (pm_xv X.1 2 (i + 3)) = 0
  · obtain ⟨r, I1, I2, h1, h2, h3⟩ := ok_step (X := X) h (w := (pm_xv X.1 2 (i + 1))) (k := (pm_xv X.1 2 (i + 2))) (b := 0) (Or.inl rfl)
    refine ⟨I2, ?_, h3⟩
    rw [if_pos z, h1] at e
    simp only [Option.bind_some] at e
    rw [if_pos (by omega), if_pos (by omega)] at e
    rw [if_pos (by omega), if_pos (by omega)] at e
    rw [if_pos (by omega), if_pos (by omega)] at e
    rw [if_pos z, h2] at e
    simp only [Option.bind_some] at e
    rw [if_pos (by trivial)] at e
    exact e
  · obtain ⟨r, I1, I2, h1, h2, h3⟩ := ok_step (X := X) h (w := (pm_xv X.1 2 (i + 1))) (k := (pm_xv X.1 2 (i + 2))) (b := 1) (Or.inr rfl)
    refine ⟨I2, ?_, h3⟩
    rw [if_neg z, h1] at e
    simp only [Option.bind_some] at e
    rw [if_pos (by omega), if_pos (by omega)] at e
    rw [if_pos (by omega), if_pos (by omega)] at e
    rw [if_pos (by omega), if_pos (by omega)] at e
    rw [if_neg z, h2] at e
    simp only [Option.bind_some] at e
    rw [if_pos (by trivial)] at e
    exact e
theorem L_counts (h : Rl I) {i : Int} (hi : 0 ≤ i ∧ i + 5 ≤ X.2) (hL : X.2 ≤ 2560) : ∃ J, f_L_496 X i I = f_L_1001 X i J ∧ Rl J := by
  have e := e_L_496 X i I
  rw [if_pos (by omega), if_pos (by omega)] at e
  rw [if_pos (by omega), if_pos (by omega)] at e
  by_cases z : (pm_xv X.1 2 (i + 2)) = 0
  · obtain ⟨r, I1, I2, h1, h2, h3⟩ := ok_counts (X := X) h (w := (pm_xv X.1 2 (i + 1))) (v := 0) (Or.inl rfl)
    refine ⟨I2, ?_, h3⟩
    rw [if_pos z, h1] at e
    simp only [Option.bind_some] at e
    rw [if_pos (by omega), if_pos (by omega)] at e
    rw [if_pos (by omega), if_pos (by omega)] at e
    rw [if_pos z, h2] at e
    simp only [Option.bind_some] at e
    rw [if_pos (by trivial)] at e
    exact e
  · obtain ⟨r, I1, I2, h1, h2, h3⟩ := ok_counts (X := X) h (w := (pm_xv X.1 2 (i + 1))) (v := 1) (Or.inr rfl)
    refine ⟨I2, ?_, h3⟩
    rw [if_neg z, h1] at e
    simp only [Option.bind_some] at e
    rw [if_pos (by omega), if_pos (by omega)] at e
    rw [if_pos (by omega), if_pos (by omega)] at e
    rw [if_neg z, h2] at e
    simp only [Option.bind_some] at e
    rw [if_pos (by trivial)] at e
    exact e
theorem L_told (h : Rl I) {i : Int} (hi : 0 ≤ i ∧ i + 5 ≤ X.2) (hL : X.2 ≤ 2560) : ∃ J, f_L_545 X i I = f_L_1001 X i J ∧ Rl J := by
  obtain ⟨r, I1, I2, h1, h2, h3⟩ := ok_told (X := X) h (w := (pm_xv X.1 2 (i + 1))) (v := (pm_xv X.1 2 (i + 2)))
  refine ⟨I2, ?_, h3⟩
  rw [e_L_545]
  rw [if_pos (by omega), if_pos (by omega)]
  rw [if_pos (by omega), if_pos (by omega)]
  rw [h1]
  simp only [Option.bind_some]
  rw [if_pos (by omega), if_pos (by omega)]
  rw [if_pos (by omega), if_pos (by omega)]
  rw [h2]
  simp only [Option.bind_some]
  rw [if_pos (by trivial)]
theorem L_drop (h : Rl I) {i : Int} (hi : 0 ≤ i ∧ i + 5 ≤ X.2) (hL : X.2 ≤ 2560) : ∃ J, f_L_578 X i I = f_L_1001 X i J ∧ Rl J := by
  obtain ⟨r, I1, I2, h1, h2, h3⟩ := ok_drop (X := X) h 
  refine ⟨I2, ?_, h3⟩
  rw [e_L_578]
  rw [h1]
  simp only [Option.bind_some]
  rw [h2]
  simp only [Option.bind_some]
  rw [if_pos (by trivial)]
theorem L_set (h : Rl I) {i : Int} (hi : 0 ≤ i ∧ i + 5 ≤ X.2) (hL : X.2 ≤ 2560) : ∃ J, f_L_591 X i I = f_L_1001 X i J ∧ Rl J := by
  obtain ⟨r, I1, I2, h1, h2, h3⟩ := ok_set (X := X) h (k := (pm_xv X.1 2 (i + 1))) (a := (pm_xv X.1 2 (i + 2)))
  refine ⟨I2, ?_, h3⟩
  rw [e_L_591]
  rw [if_pos (by omega), if_pos (by omega)]
  rw [if_pos (by omega), if_pos (by omega)]
  rw [h1]
  simp only [Option.bind_some]
  rw [if_pos (by omega), if_pos (by omega)]
  rw [if_pos (by omega), if_pos (by omega)]
  rw [h2]
  simp only [Option.bind_some]
  rw [if_pos (by trivial)]
theorem L_at (h : Rl I) {i : Int} (hi : 0 ≤ i ∧ i + 5 ≤ X.2) (hL : X.2 ≤ 2560) : ∃ J, f_L_624 X i I = f_L_1001 X i J ∧ Rl J := by
  obtain ⟨r, I1, I2, h1, h2, h3⟩ := ok_at (X := X) h (v := (pm_xv X.1 2 (i + 1)))
  refine ⟨I2, ?_, h3⟩
  rw [e_L_624]
  rw [if_pos (by omega), if_pos (by omega)]
  rw [h1]
  simp only [Option.bind_some]
  rw [if_pos (by omega), if_pos (by omega)]
  rw [h2]
  simp only [Option.bind_some]
  rw [if_pos (by trivial)]
theorem L_weight (h : Rl I) {i : Int} (hi : 0 ≤ i ∧ i + 5 ≤ X.2) (hL : X.2 ≤ 2560) : ∃ J, f_L_647 X i I = f_L_1001 X i J ∧ Rl J := by
  obtain ⟨r, I1, I2, h1, h2, h3⟩ := ok_weight (X := X) h 
  refine ⟨I2, ?_, h3⟩
  rw [e_L_647]
  rw [h1]
  simp only [Option.bind_some]
  rw [h2]
  simp only [Option.bind_some]
  rw [if_neg (Int.lt_irrefl _), if_pos (by trivial)]
theorem L_twist (h : Rl I) {i : Int} (hi : 0 ≤ i ∧ i + 5 ≤ X.2) (hL : X.2 ≤ 2560) : ∃ J, f_L_661 X i I = f_L_1001 X i J ∧ Rl J := by
  obtain ⟨r, I1, I2, h1, h2, h3⟩ := ok_twist (X := X) h (p := (pm_xv X.1 2 (i + 1))) (a := (pm_xv X.1 2 (i + 2)))
  refine ⟨I2, ?_, h3⟩
  rw [e_L_661]
  rw [if_pos (by omega), if_pos (by omega)]
  rw [if_pos (by omega), if_pos (by omega)]
  rw [h1]
  simp only [Option.bind_some]
  rw [if_pos (by omega), if_pos (by omega)]
  rw [if_pos (by omega), if_pos (by omega)]
  rw [h2]
  simp only [Option.bind_some]
  rw [if_pos (by trivial)]
theorem L_still (h : Rl I) {i : Int} (hi : 0 ≤ i ∧ i + 5 ≤ X.2) (hL : X.2 ≤ 2560) : ∃ J, f_L_694 X i I = f_L_1001 X i J ∧ Rl J := by
  obtain ⟨r, I1, I2, h1, h2, h3⟩ := ok_still (X := X) h 
  refine ⟨I2, ?_, h3⟩
  rw [e_L_694]
  rw [h1]
  simp only [Option.bind_some]
  rw [h2]
  simp only [Option.bind_some]
  rw [if_pos (by trivial)]
theorem L_undo (h : Rl I) {i : Int} (hi : 0 ≤ i ∧ i + 5 ≤ X.2) (hL : X.2 ≤ 2560) : ∃ J, f_L_707 X i I = f_L_1001 X i J ∧ Rl J := by
  obtain ⟨r, I1, I2, h1, h2, h3⟩ := ok_undo (X := X) h 
  refine ⟨I2, ?_, h3⟩
  rw [e_L_707]
  rw [h1]
  simp only [Option.bind_some]
  rw [h2]
  simp only [Option.bind_some]
  rw [if_pos (by trivial)]
theorem L_tree (h : Rl I) {i : Int} (hi : 0 ≤ i ∧ i + 5 ≤ X.2) (hL : X.2 ≤ 2560) : ∃ J, f_L_720 X i I = f_L_1001 X i J ∧ Rl J := by
  obtain ⟨r, I1, I2, h1, h2, h3⟩ := ok_tree (X := X) h (v := (pm_xv X.1 2 (i + 1)))
  refine ⟨I2, ?_, h3⟩
  rw [e_L_720]
  rw [if_pos (by omega), if_pos (by omega)]
  rw [h1]
  simp only [Option.bind_some]
  rw [if_pos (by omega), if_pos (by omega)]
  rw [h2]
  simp only [Option.bind_some]
  rw [if_pos (by trivial)]
theorem L_sum (h : Rl I) {i : Int} (hi : 0 ≤ i ∧ i + 5 ≤ X.2) (hL : X.2 ≤ 2560) : ∃ J, f_L_743 X i I = f_L_1001 X i J ∧ Rl J := by
  obtain ⟨r, I1, I2, h1, h2, h3⟩ := ok_sum (X := X) h 
  refine ⟨I2, ?_, h3⟩
  rw [e_L_743]
  rw [h1]
  simp only [Option.bind_some]
  rw [h2]
  simp only [Option.bind_some]
  rw [if_neg (Int.lt_irrefl _), if_pos (by trivial)]
theorem L_sumBy (h : Rl I) {i : Int} (hi : 0 ≤ i ∧ i + 5 ≤ X.2) (hL : X.2 ≤ 2560) : ∃ J, f_L_757 X i I = f_L_1001 X i J ∧ Rl J := by
  obtain ⟨r, I1, I2, h1, h2, h3⟩ := ok_sumBy (X := X) h (v := (pm_xv X.1 2 (i + 1))) (a := (pm_xv X.1 2 (i + 2)))
  refine ⟨I2, ?_, h3⟩
  rw [e_L_757]
  rw [if_pos (by omega), if_pos (by omega)]
  rw [if_pos (by omega), if_pos (by omega)]
  rw [h1]
  simp only [Option.bind_some]
  rw [if_pos (by omega), if_pos (by omega)]
  rw [if_pos (by omega), if_pos (by omega)]
  rw [h2]
  simp only [Option.bind_some]
  rw [if_neg (Int.lt_irrefl _), if_pos (by trivial)]
theorem L_mean (h : Rl I) {i : Int} (hi : 0 ≤ i ∧ i + 5 ≤ X.2) (hL : X.2 ≤ 2560) : ∃ J, f_L_791 X i I = f_L_1001 X i J ∧ Rl J := by
  obtain ⟨r, I1, I2, h1, h2, h3⟩ := ok_mean (X := X) h (v := (pm_xv X.1 2 (i + 1))) (a := (pm_xv X.1 2 (i + 2))) (u := (pm_xv X.1 2 (i + 3)))
  refine ⟨I2, ?_, h3⟩
  rw [e_L_791]
  rw [if_pos (by omega), if_pos (by omega)]
  rw [if_pos (by omega), if_pos (by omega)]
  rw [if_pos (by omega), if_pos (by omega)]
  rw [h1]
  simp only [Option.bind_some]
  rw [if_pos (by omega), if_pos (by omega)]
  rw [if_pos (by omega), if_pos (by omega)]
  rw [if_pos (by omega), if_pos (by omega)]
  rw [h2]
  simp only [Option.bind_some]
  rw [if_neg (Int.lt_irrefl _), if_pos (by trivial)]
theorem L_flat (h : Rl I) {i : Int} (hi : 0 ≤ i ∧ i + 5 ≤ X.2) (hL : X.2 ≤ 2560) : ∃ J, f_L_835 X i I = f_L_1001 X i J ∧ Rl J := by
  obtain ⟨r, I1, I2, h1, h2, h3⟩ := ok_flat (X := X) h 
  refine ⟨I2, ?_, h3⟩
  rw [e_L_835]
  rw [h1]
  simp only [Option.bind_some]
  rw [h2]
  simp only [Option.bind_some]
  rw [if_neg (Int.lt_irrefl _), if_pos (by trivial)]
theorem L_sheet (h : Rl I) {i : Int} (hi : 0 ≤ i ∧ i + 5 ≤ X.2) (hL : X.2 ≤ 2560) : ∃ J, f_L_849 X i I = f_L_1001 X i J ∧ Rl J := by
  obtain ⟨r, I1, I2, h1, h2, h3⟩ := ok_sheet (X := X) h (k := (pm_xv X.1 2 (i + 1))) (a := (pm_xv X.1 2 (i + 2))) (n := (pm_xv X.1 2 (i + 3)))
  refine ⟨I2, ?_, h3⟩
  rw [e_L_849]
  rw [if_pos (by omega), if_pos (by omega)]
  rw [if_pos (by omega), if_pos (by omega)]
  rw [if_pos (by omega), if_pos (by omega)]
  rw [h1]
  simp only [Option.bind_some]
  rw [if_pos (by omega), if_pos (by omega)]
  rw [if_pos (by omega), if_pos (by omega)]
  rw [if_pos (by omega), if_pos (by omega)]
  rw [h2]
  simp only [Option.bind_some]
  rw [if_pos (by trivial)]
theorem L_lay (h : Rl I) {i : Int} (hi : 0 ≤ i ∧ i + 5 ≤ X.2) (hL : X.2 ≤ 2560) : ∃ J, f_L_892 X i I = f_L_1001 X i J ∧ Rl J := by
  obtain ⟨r, I1, I2, h1, h2, h3⟩ := ok_lay (X := X) h (k := (pm_xv X.1 2 (i + 1))) (i := (pm_xv X.1 2 (i + 2))) (v := (pm_xv X.1 2 (i + 3)))
  refine ⟨I2, ?_, h3⟩
  rw [e_L_892]
  rw [if_pos (by omega), if_pos (by omega)]
  rw [if_pos (by omega), if_pos (by omega)]
  rw [if_pos (by omega), if_pos (by omega)]
  rw [h1]
  simp only [Option.bind_some]
  rw [if_pos (by omega), if_pos (by omega)]
  rw [if_pos (by omega), if_pos (by omega)]
  rw [if_pos (by omega), if_pos (by omega)]
  rw [h2]
  simp only [Option.bind_some]
  rw [if_pos (by trivial)]
theorem L_fill (h : Rl I) {i : Int} (hi : 0 ≤ i ∧ i + 5 ≤ X.2) (hL : X.2 ≤ 2560) (hX : ∀ j, pm_r32 (X.1 j)) : ∃ J, f_L_935 X i I = f_L_1001 X i J ∧ Rl J := by
  obtain ⟨r, I1, I2, h1, h2, h3⟩ := ok_fill (X := X) h (k := (pm_xv X.1 2 (i + 1))) (a := (pm_xv X.1 2 (i + 2))) (f := (pm_xv X.1 2 (i + 3))) (hX _)
  refine ⟨I2, ?_, h3⟩
  rw [e_L_935]
  rw [if_pos (by omega), if_pos (by omega)]
  rw [if_pos (by omega), if_pos (by omega)]
  rw [if_pos (by omega), if_pos (by omega)]
  rw [h1]
  simp only [Option.bind_some]
  rw [if_pos (by omega), if_pos (by omega)]
  rw [if_pos (by omega), if_pos (by omega)]
  rw [if_pos (by omega), if_pos (by omega)]
  rw [h2]
  simp only [Option.bind_some]
  rw [if_pos (by trivial)]
theorem L_many (h : Rl I) {i : Int} (hi : 0 ≤ i ∧ i + 5 ≤ X.2) (hL : X.2 ≤ 2560) : ∃ J, f_L_978 X i I = f_L_1001 X i J ∧ Rl J := by
  obtain ⟨r, I1, I2, h1, h2, h3⟩ := ok_many (X := X) h (v := (pm_xv X.1 2 (i + 1)))
  refine ⟨I2, ?_, h3⟩
  rw [e_L_978]
  rw [if_pos (by omega), if_pos (by omega)]
  rw [h1]
  simp only [Option.bind_some]
  rw [if_pos (by omega), if_pos (by omega)]
  rw [h2]
  simp only [Option.bind_some]
  rw [if_pos (by trivial)]
theorem L_body (h : Rl I) {i : Int} (hi : 0 ≤ i ∧ i + 5 ≤ X.2) (hL : X.2 ≤ 2560) (hX : ∀ j, pm_r32 (X.1 j)) : ∃ J, f_L_18 X i I = f_L_18 X (i + 5) J ∧ Rl J := by
  have fin : ∀ F : pm_O, (∃ J, F = f_L_1001 X i J ∧ Rl J) → ∃ J, F = f_L_18 X (i + 5) J ∧ Rl J := fun F q => by
    obtain ⟨J, j1, j2⟩ := q
    refine ⟨J, ?_, j2⟩
    rw [j1, e_L_1001, if_pos (by omega)]
  rw [e_L_18, if_pos (by omega), if_neg (by omega), if_pos (by omega)]
  generalize pm_and (pm_xv X.1 2 i) 31 = c
  by_cases z0 : c = 0
  · rw [if_pos z0]; exact fin _ (L_group h hi hL)
  rw [if_neg z0]
  by_cases z1 : c = 1
  · rw [if_pos z1]; exact fin _ (L_read h hi hL hX)
  rw [if_neg z1]
  by_cases z2 : c = 2
  · rw [if_pos z2]; exact fin _ (L_times h hi hL)
  rw [if_neg z2]
  by_cases z3 : c = 3
  · rw [if_pos z3]; exact fin _ (L_turn h hi hL)
  rw [if_neg z3]
  by_cases z4 : c = 4
  · rw [if_pos z4]; exact fin _ (L_about h hi hL)
  rw [if_neg z4]
  by_cases z5 : c = 5
  · rw [if_pos z5]; exact fin _ (L_worth h hi hL)
  rw [if_neg z5]
  by_cases z6 : c = 6
  · rw [if_pos z6]; exact fin _ (L_point h hi hL)
  rw [if_neg z6]
  by_cases z7 : c = 7
  · rw [if_pos z7]; exact fin _ (L_line h hi hL)
  rw [if_neg z7]
  by_cases z8 : c = 8
  · rw [if_pos z8]; exact fin _ (L_walk h hi hL)
  rw [if_neg z8]
  by_cases z9 : c = 9
  · rw [if_pos z9]; exact fin _ (L_step h hi hL)
  rw [if_neg z9]
  by_cases z10 : c = 10
  · rw [if_pos z10]; exact fin _ (L_counts h hi hL)
  rw [if_neg z10]
  by_cases z11 : c = 11
  · rw [if_pos z11]; exact fin _ (L_told h hi hL)
  rw [if_neg z11]
  by_cases z12 : c = 12
  · rw [if_pos z12]; exact fin _ (L_drop h hi hL)
  rw [if_neg z12]
  by_cases z13 : c = 13
  · rw [if_pos z13]; exact fin _ (L_set h hi hL)
  rw [if_neg z13]
  by_cases z14 : c = 14
  · rw [if_pos z14]; exact fin _ (L_at h hi hL)
  rw [if_neg z14]
  by_cases z15 : c = 15
  · rw [if_pos z15]; exact fin _ (L_weight h hi hL)
  rw [if_neg z15]
  by_cases z16 : c = 16
  · rw [if_pos z16]; exact fin _ (L_twist h hi hL)
  rw [if_neg z16]
  by_cases z17 : c = 17
  · rw [if_pos z17]; exact fin _ (L_still h hi hL)
  rw [if_neg z17]
  by_cases z18 : c = 18
  · rw [if_pos z18]; exact fin _ (L_undo h hi hL)
  rw [if_neg z18]
  by_cases z19 : c = 19
  · rw [if_pos z19]; exact fin _ (L_tree h hi hL)
  rw [if_neg z19]
  by_cases z20 : c = 20
  · rw [if_pos z20]; exact fin _ (L_sum h hi hL)
  rw [if_neg z20]
  by_cases z21 : c = 21
  · rw [if_pos z21]; exact fin _ (L_sumBy h hi hL)
  rw [if_neg z21]
  by_cases z22 : c = 22
  · rw [if_pos z22]; exact fin _ (L_mean h hi hL)
  rw [if_neg z22]
  by_cases z23 : c = 23
  · rw [if_pos z23]; exact fin _ (L_flat h hi hL)
  rw [if_neg z23]
  by_cases z24 : c = 24
  · rw [if_pos z24]; exact fin _ (L_sheet h hi hL)
  rw [if_neg z24]
  by_cases z25 : c = 25
  · rw [if_pos z25]; exact fin _ (L_lay h hi hL)
  rw [if_neg z25]
  by_cases z26 : c = 26
  · rw [if_pos z26]; exact fin _ (L_fill h hi hL hX)
  rw [if_neg z26]
  by_cases z27 : c = 27
  · rw [if_pos z27]; exact fin _ (L_many h hi hL)
  rw [if_neg z27]
  exact fin _ ⟨I, rfl, h⟩
theorem L_loop (hL : X.2 ≤ 2560) (hX : ∀ j, pm_r32 (X.1 j)) : ∀ (m : Nat) (i : Int) (I : pm_I), X.2 ≤ i + m → 0 ≤ i → 0 ≤ X.2 → Rl I → ∃ J, f_L_18 X i I = some (1, J)
  | 0, i, I, hm, i0, x0, h => ⟨I, by rw [e_L_18, if_pos (by omega), if_pos (by omega)]⟩
  | m + 1, i, I, hm, i0, x0, h => by
    by_cases z : i + 5 ≤ X.2
    · obtain ⟨J, j1, j2⟩ := L_body h ⟨i0, z⟩ hL hX
      obtain ⟨K, k1⟩ := L_loop hL hX m (i + 5) J (by omega) (by omega) x0 j2
      exact ⟨K, j1.trans k1⟩
    · exact ⟨I, by rw [e_L_18, if_pos (by omega), if_pos (by omega)]⟩
end LAW
