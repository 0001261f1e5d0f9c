abbrev lkR : List Nat := [63, 65, 66, 67, 68, 69, 70, 71, 72]
theorem lkR_n {w : Int} (w8 : 0 ≤ w ∧ w < 8) : 65 + w.toNat ∈ lkR := by simp only [lkR, List.mem_cons, List.not_mem_nil, or_false]; omega
/-- the walks of which q are looked at, with the factors F -/
def Lkd (I J : pm_I) (q : Int → Prop) (F : Int → Int → Int) : Prop := fr lkR I J ∧ ∀ w, 0 ≤ w → w < 8 → (J 63 w ≠ 0 ↔ q w) ∧ ∀ a, 0 ≤ a → a < I 4 0 → (q w → J (65 + w.toNat) a = F w a) ∧ (¬ q w → J (65 + w.toNat) a = 1)
section LKS
variable {X : pm_XT} {I : pm_I}
theorem Lkd.add {J K : pm_I} {q : Int → Prop} {F F' : Int → Int → Int} (h : Lkd I J q F) {w : Int} (w8 : 0 ≤ w ∧ w < 8) (f : fr [63, 65 + w.toNat] J K) (e : ∀ k, K 63 k = if k = w then 1 else J 63 k) (ef : ∀ a, 0 ≤ a → a < I 4 0 → K (65 + w.toNat) a = F' w a) (eF : ∀ u a, u ≠ w → F' u a = F u a) : Lkd I K (fun u => q u ∨ u = w) F' := by
  refine ⟨h.1.tr (f.mono (fun r hr => ?_)), fun u u0 u1 => ⟨?_, fun a a0 a1 => ?_⟩⟩
  · simp only [List.mem_cons, List.not_mem_nil, or_false] at hr
    rcases hr with z | z
    · rw [z]; decide
    · rw [z]; exact lkR_n w8
  · rw [e]
    by_cases z : u = w
    · rw [if_pos z]; simp [z]
    · rw [if_neg z, (h.2 u u0 u1).1]; simp [z]
  · by_cases z : u = w
    · rw [z]; exact ⟨fun _ => ef a a0 a1, fun y => absurd (Or.inr rfl) y⟩
    · have e1 : K (65 + u.toNat) = J (65 + u.toNat) := f _ (by simp only [List.mem_cons, List.not_mem_nil, or_false]; omega)
      have r := (h.2 u u0 u1).2 a a0 a1
      rw [e1, eF u a z]
      exact ⟨fun y => r.1 (y.resolve_right z), fun y => r.2 (fun x => y (Or.inl x))⟩
theorem Lkd.iff {J : pm_I} {q q' : Int → Prop} {F : Int → Int → Int} (h : Lkd I J q F) (e : ∀ w, 0 ≤ w → w < 8 → (q w ↔ q' w)) : Lkd I J q' F := by
  refine ⟨h.1, fun w w0 w1 => ⟨(h.2 w w0 w1).1.trans (e w w0 w1), fun a a0 a1 => ?_⟩⟩
  have := (h.2 w w0 w1).2 a a0 a1
  rw [e w w0 w1] at this
  exact this
theorem U_clear (n8 : I 4 0 ≤ 8) (F : Int → Int → Int) : ∃ J, f_U_clear X I = some (0, J) ∧ Lkd I J (fun _ => False) F := by
  obtain ⟨J, g1, g2, g3, g4⟩ := pl_loop (fun i (J : pm_I) => f_U_clear_2 X i J) 8 (fun i J => 0 ≤ i ∧ fr lkR I J ∧ ∀ w, 0 ≤ w → w < i → J 63 w = 0 ∧ ∀ a, 0 ≤ a → a < 8 → J (65 + w.toNat) a = 1) (fun i J hi hp => by
    obtain ⟨p0, p1, p2⟩ := hp
    have w8 : 0 ≤ i ∧ i < 8 := ⟨p0, hi⟩
    obtain ⟨d1, d2⟩ := c_fa w8
    have d3 := c_fal X.2 w8
    have n63 : (63 : Nat) ≠ 65 + i.toNat := by omega
    obtain ⟨K, k1, k2, k3, k4⟩ := pl_loop (fun a (K : pm_I) => f_U_clear_17 X i a K) 8 (fun a K => 0 ≤ a ∧ fr [65 + i.toNat] (pm_up J 63 i 0) K ∧ ∀ b, 0 ≤ b → b < a → K (65 + i.toNat) b = 1) (fun a K ha hp => by
      obtain ⟨r0, r1, r2⟩ := hp
      show ∃ s', f_U_clear_17 X i a K = f_U_clear_17 X i (a + 1) s' ∧ _
      rw [e_U_clear_17, if_pos ha, if_pos w8, d1, d2, d3]
      simp only [show Nat.beq 8 8 = true from rfl, cond_true]
      rw [if_pos (by omega), if_pos (by omega)]
      refine ⟨_, rfl, by omega, r1.up (by simp), fun b b0 b1 => ?_⟩
      rw [up_at]
      by_cases z : b = a
      · rw [if_pos z]
      · rw [if_neg z]; exact r2 b b0 (by omega)) (i := 0) (s := pm_up J 63 i 0) (by omega) ⟨Int.le_refl 0, fr.rf _ _, fun b b0 b1 => by omega⟩
    show ∃ s', f_U_clear_2 X i J = f_U_clear_2 X (i + 1) s' ∧ _
    refine ⟨K, ?_, by omega, ?_, fun w w0 w1 => ?_⟩
    · rw [e_U_clear_2, if_pos hi, if_pos w8]
      refine k1.trans ?_
      show f_U_clear_17 X i 8 K = _
      rw [e_U_clear_17, if_neg (by omega), if_pos (by omega)]
    · refine (p1.up (by decide)).tr (k3.mono (fun r hr => ?_))
      simp only [List.mem_cons, List.not_mem_nil, or_false] at hr
      rw [hr]; exact lkR_n w8
    · have e63 : K 63 = pm_up J 63 i 0 63 := k3 63 (by simpa using n63)
      by_cases z : w = i
      · rw [z, e63, up_eq]; exact ⟨rfl, k4⟩
      · have q := p2 w w0 (by omega)
        rw [e63, up_ne _ z, k3 (65 + w.toNat) (by simp only [List.mem_cons, List.not_mem_nil, or_false]; omega), up_rw _ (by omega)]
        exact q) (i := 0) (s := I) (by omega) ⟨Int.le_refl 0, fr.rf _ _, fun w w0 w1 => by omega⟩
  refine ⟨J, ?_, g3, fun w w0 w1 => ⟨?_, fun a a0 a1 => ⟨fun y => absurd y id, fun _ => (g4 w w0 w1).2 a a0 (by omega)⟩⟩⟩
  · rw [e_U_clear]
    refine g1.trans ?_
    show f_U_clear_2 X 8 J = _
    rw [e_U_clear_2, if_neg (by omega)]
  · simp [(g4 w w0 w1).1]
theorem U_lookForWorth {w : Int} (w8 : 0 ≤ w ∧ w < 8) (hn : 1 ≤ I 4 0 ∧ I 4 0 ≤ 8) : ∃ K, f_U_lookForWorth X w I = some (0, K) ∧ fr [63, 65 + w.toNat] I K ∧ (∀ k, K 63 k = if k = w then 1 else I 63 k) ∧ ∀ a, 0 ≤ a → a < I 4 0 → K (65 + w.toNat) a = I 9 a := by
  obtain ⟨d1, d2⟩ := c_fa w8
  have d3 := c_fal X.2 w8
  have n9 : ∀ r : Nat, r < 65 → r ≠ 65 + w.toNat := fun r hr => by omega
  obtain ⟨K, k1, k2, k3, k4⟩ := pl_loop (fun a (K : pm_I) => f_U_lookForWorth_9 X w a K) (I 4 0) (fun a K => 0 ≤ a ∧ fr [65 + w.toNat] (pm_up I 63 w 1) K ∧ ∀ b, 0 ≤ b → b < a → K (65 + w.toNat) b = I 9 b) (fun a K ha hp => by
    obtain ⟨r0, r1, r2⟩ := hp
    have e9 : K 9 = I 9 := by rw [r1 9 (by simpa using n9 9 (by decide)), up_rw _ (by decide)]
    have e4 : K 4 = I 4 := by rw [r1 4 (by simpa using n9 4 (by decide)), up_rw _ (by decide)]
    show ∃ s', f_U_lookForWorth_9 X w a K = f_U_lookForWorth_9 X w (a + 1) s' ∧ _
    rw [e_U_lookForWorth_9, e4, e9, if_pos ha, if_pos w8, d1, d2, d3]
    simp only [show Nat.beq 8 8 = true from rfl, cond_true]
    rw [if_pos (by omega), if_pos (by omega), if_pos (by omega)]
    refine ⟨_, rfl, by omega, r1.up (by simp), fun b b0 b1 => ?_⟩
    rw [up_at]
    by_cases z : b = a
    · rw [if_pos z, z]
    · rw [if_neg z]; exact r2 b b0 (by omega)) (i := 0) (s := pm_up I 63 w 1) (by omega) ⟨Int.le_refl 0, fr.rf _ _, fun b b0 b1 => by omega⟩
  refine ⟨K, ?_, fr.tr ((fr.rf _ I).up (by simp)) (k3.mono (by simp)), fun k => ?_, k4⟩
  · rw [e_U_lookForWorth, if_pos w8]
    refine k1.trans ?_
    show f_U_lookForWorth_9 X w (I 4 0) K = _
    have e4 : K 4 = I 4 := by rw [k3 4 (by simpa using n9 4 (by decide)), up_rw _ (by decide)]
    rw [e_U_lookForWorth_9, e4, if_neg (by omega)]
  · rw [k3 63 (by simpa using n9 63 (by decide)), up_at]
theorem U_lookForClass {w c : Int} (w8 : 0 ≤ w ∧ w < 8) (hn : 1 ≤ I 4 0 ∧ I 4 0 ≤ 8) (hc : 0 ≤ c ∧ c < 8) : ∃ K, f_U_lookForClass X w c I = some (0, K) ∧ fr [63, 65 + w.toNat] I K ∧ (∀ k, K 63 k = if k = w then 1 else I 63 k) ∧ ∀ a, 0 ≤ a → a < I 4 0 → K (65 + w.toNat) a = if I 8 a = I 8 c then I (65 + w.toNat) a else 0 := by
  obtain ⟨d1, d2⟩ := c_fa w8
  have d3 := c_fal X.2 w8
  have n9 : ∀ r : Nat, r < 65 → r ≠ 65 + w.toNat := fun r hr => by omega
  obtain ⟨K, k1, k2, k3, k4⟩ := pl_loop (fun a (K : pm_I) => f_U_lookForClass_10 X w c a K) (I 4 0) (fun a K => 0 ≤ a ∧ fr [65 + w.toNat] (pm_up I 63 w 1) K ∧ ∀ b, K (65 + w.toNat) b = if (0 ≤ b ∧ b < a) ∧ ¬ I 8 b = I 8 c then 0 else I (65 + w.toNat) b) (fun a K ha hp => by
    obtain ⟨r0, r1, r2⟩ := hp
    have e8 : K 8 = I 8 := by rw [r1 8 (by simpa using n9 8 (by decide)), up_rw _ (by decide)]
    have e4 : K 4 = I 4 := by rw [r1 4 (by simpa using n9 4 (by decide)), up_rw _ (by decide)]
    show ∃ s', f_U_lookForClass_10 X w c a K = f_U_lookForClass_10 X w c (a + 1) s' ∧ _
    rw [e_U_lookForClass_10, e4, e8, if_pos ha, if_pos (by omega), if_pos hc]
    by_cases y : I 8 a = I 8 c
    · rw [if_pos y, if_pos (by omega)]
      refine ⟨_, rfl, by omega, r1, fun b => ?_⟩
      rw [r2 b]
      by_cases z : (0 ≤ b ∧ b < a) ∧ ¬ I 8 b = I 8 c
      · rw [if_pos z, if_pos ⟨by omega, z.2⟩]
      · rw [if_neg z, if_neg (fun x => z ⟨by
          have : b ≠ a := fun q => x.2 (by rw [q]; exact y)
          omega, x.2⟩)]
    · rw [if_neg y, if_pos w8, d1, d2, d3]
      simp only [show Nat.beq 8 8 = true from rfl, cond_true]
      rw [if_pos (by omega), if_pos (by omega)]
      refine ⟨_, rfl, by omega, r1.up (by simp), fun b => ?_⟩
      rw [up_at, r2 b]
      by_cases z : b = a
      · rw [if_pos z, if_pos ⟨by omega, by rw [z]; exact y⟩]
      · rw [if_neg z]
        by_cases x : (0 ≤ b ∧ b < a) ∧ ¬ I 8 b = I 8 c
        · rw [if_pos x, if_pos ⟨by omega, x.2⟩]
        · rw [if_neg x, if_neg (fun v => x ⟨by omega, v.2⟩)]) (i := 0) (s := pm_up I 63 w 1) (by omega) ⟨Int.le_refl 0, fr.rf _ _, fun b => by rw [if_neg (fun x => by omega), up_rw _ (by omega)]⟩
  refine ⟨K, ?_, fr.tr ((fr.rf _ I).up (by simp)) (k3.mono (by simp)), fun k => ?_, fun a a0 a1 => ?_⟩
  · rw [e_U_lookForClass, if_pos w8]
    refine k1.trans ?_
    show f_U_lookForClass_10 X w c (I 4 0) K = _
    have e4 : K 4 = I 4 := by rw [k3 4 (by simpa using n9 4 (by decide)), up_rw _ (by decide)]
    rw [e_U_lookForClass_10, e4, if_neg (by omega)]
  · rw [k3 63 (by simpa using n9 63 (by decide)), up_at]
  · rw [k4 a]
    by_cases y : I 8 a = I 8 c
    · rw [if_pos y, if_neg (fun x => x.2 y)]
    · rw [if_neg y, if_pos ⟨⟨a0, a1⟩, y⟩]
theorem U_lookForStill {w : Int} (w8 : 0 ≤ w ∧ w < 8) : ∃ K, f_U_lookForStill X w I = some (0, K) ∧ fr [63, 65 + w.toNat] I K ∧ (∀ k, K 63 k = if k = w then 1 else I 63 k) ∧ ∀ a, 0 ≤ a → a < 8 → K (65 + w.toNat) a = if a = 0 then I (65 + w.toNat) 0 else 0 := by
  obtain ⟨d1, d2⟩ := c_fa w8
  have d3 := c_fal X.2 w8
  have n9 : ∀ r : Nat, r < 65 → r ≠ 65 + w.toNat := fun r hr => by omega
  obtain ⟨K, k1, k2, k3, k4, k5⟩ := pl_loop (fun a (K : pm_I) => f_U_lookForStill_9 X w a K) 8 (fun a K => 1 ≤ a ∧ fr [65 + w.toNat] (pm_up I 63 w 1) K ∧ K (65 + w.toNat) 0 = I (65 + w.toNat) 0 ∧ ∀ b, 1 ≤ b → b < a → K (65 + w.toNat) b = 0) (fun a K ha hp => by
    obtain ⟨r0, r1, r2, r3⟩ := hp
    show ∃ s', f_U_lookForStill_9 X w a K = f_U_lookForStill_9 X w (a + 1) s' ∧ _
    rw [e_U_lookForStill_9, if_pos ha, if_pos w8, d1, d2, d3]
    simp only [show Nat.beq 8 8 = true from rfl, cond_true]
    rw [if_pos (by omega), if_pos (by omega)]
    refine ⟨_, rfl, by omega, r1.up (by simp), by rw [up_at, if_neg (by omega), r2], fun b b0 b1 => ?_⟩
    rw [up_at]
    by_cases z : b = a
    · rw [if_pos z]
    · rw [if_neg z]; exact r3 b b0 (by omega)) (i := 1) (s := pm_up I 63 w 1) (by omega) ⟨Int.le_refl 1, fr.rf _ _, by rw [up_rw _ (by omega)], fun b b0 b1 => by omega⟩
  refine ⟨K, ?_, fr.tr ((fr.rf _ I).up (by simp)) (k3.mono (by simp)), fun k => ?_, fun a a0 a1 => ?_⟩
  · rw [e_U_lookForStill, if_pos w8]
    refine k1.trans ?_
    show f_U_lookForStill_9 X w 8 K = _
    rw [e_U_lookForStill_9, if_neg (by omega)]
  · rw [k3 63 (by simpa using n9 63 (by decide)), up_at]
  · by_cases y : a = 0
    · rw [if_pos y, y, k4]
    · rw [if_neg y]; exact k5 a (by omega) a1
/-- what a look leaves of the relation and of what weighs -/
theorem Lkd.rl {J : pm_I} {q : Int → Prop} {F : Int → Int → Int} (h : Lkd I J q F) (hR : Rl I) : Rl J := hR.scr (h.1.mono (by decide))
theorem Lkd.wg {J : pm_I} {q : Int → Prop} {F : Int → Int → Int} (h : Lkd I J q F) (w : Int) : wgh J w ↔ wgh I w := by
  have f := h.1
  unfold wgh cld
  rw [endv.cg (f 11 (by decide)) (f 12 (by decide)) (f 83 (by decide)) (f 84 (by decide)) (f 85 (by decide)) (f 86 (by decide)), f 83 (by decide), f 84 (by decide), f 87 (by decide)]
theorem T_lookForWeights (hR : Rl I) {J : pm_I} (h : Lkd I J (fun _ => False) (fun _ a => I 9 a)) : ∃ K, f_T_lookForWeights X J = some (0, K) ∧ Lkd I K (fun w => w < I 3 3 ∧ wgh I w) (fun _ a => I 9 a) := by
  have wb := hR.2.2.2.1.1
  have hn := hR.1.n
  obtain ⟨K, g1, g2, g3⟩ := pl_loop (fun i (K : pm_I) => f_T_lookForWeights_2 X i K) (I 3 3) (fun i K => 0 ≤ i ∧ Lkd I K (fun w => w < i ∧ wgh I w) (fun _ a => I 9 a)) (fun i K hi hp => by
    obtain ⟨p0, p1⟩ := hp
    have w8 : 0 ≤ i ∧ i < 8 := by omega
    have RK := p1.rl hR
    have e3 : K 3 = I 3 := p1.1 3 (by decide)
    have e4 : K 4 = I 4 := p1.1 4 (by decide)
    have e9 : K 9 = I 9 := p1.1 9 (by decide)
    obtain ⟨c1, c2, -⟩ := c_wk w8
    have hq := W_weighs (X := X) w8 (RK.2.2.2.1.2 i p0 (by rw [e3]; exact hi))
    show ∃ s', f_T_lookForWeights_2 X i K = f_T_lookForWeights_2 X (i + 1) s' ∧ _
    rw [e_T_lookForWeights_2, e3, if_pos hi, if_pos w8, c1, c2]
    simp only [show Nat.beq 5 5 = true from rfl, cond_true]
    by_cases z : wgh I i
    · obtain ⟨L, l1, l2, l3, l4⟩ := U_lookForWorth (X := X) (I := K) w8 (by rw [e4]; exact hn)
      rw [e4, e9] at l4
      rw [hq.1 ((p1.wg i).mpr z)]
      simp only [Option.bind_some]
      rw [if_neg (by decide), l1]
      simp only [Option.bind_some]
      rw [if_pos (by omega)]
      refine ⟨L, rfl, by omega, (p1.add w8 l2 l3 l4 (fun _ _ _ => rfl)).iff (fun w w0 w1 => ⟨fun y => ?_, fun y => ?_⟩)⟩
      · rcases y with y | y
        · exact ⟨by omega, y.2⟩
        · rw [y]; exact ⟨by omega, z⟩
      · by_cases x : w = i
        · exact Or.inr x
        · exact Or.inl ⟨by omega, y.2⟩
    · rw [hq.2 (fun y => z ((p1.wg i).mp y))]
      simp only [Option.bind_some]
      rw [if_pos trivial, if_pos (by omega)]
      refine ⟨K, rfl, by omega, p1.iff (fun w w0 w1 => ⟨fun y => ⟨by omega, y.2⟩, fun y => ⟨?_, y.2⟩⟩)⟩
      have : w ≠ i := fun e => z (by rw [← e]; exact y.2)
      omega) (i := 0) (s := J) (by omega) ⟨Int.le_refl 0, h.iff (fun w w0 w1 => ⟨fun y => absurd y id, fun y => by omega⟩)⟩
  refine ⟨K, ?_, g3⟩
  rw [e_T_lookForWeights]
  refine g1.trans ?_
  show f_T_lookForWeights_2 X (I 3 3) K = _
  rw [e_T_lookForWeights_2, g3.1 3 (by decide), if_neg (by omega)]
theorem T_flat_20 (hR : Rl I) {J : pm_I} (h : Lkd I J (fun _ => False) (fun _ a => if a = 0 then 1 else 0)) : ∃ K, f_T_flat_20 X 0 J = (f_T_sumLooked X K).bind (fun x3 => some (x3.1, x3.2)) ∧ Lkd I K (fun w => w < I 3 3 ∧ wgh I w) (fun _ a => if a = 0 then 1 else 0) := by
  have wb := hR.2.2.2.1.1
  have hn := hR.1.n
  obtain ⟨K, g1, g2, g3⟩ := pl_loop (fun i (K : pm_I) => f_T_flat_20 X i K) (I 3 3) (fun i K => 0 ≤ i ∧ Lkd I K (fun w => w < i ∧ wgh I w) (fun _ a => if a = 0 then 1 else 0)) (fun i K hi hp => by
    obtain ⟨p0, p1⟩ := hp
    have w8 : 0 ≤ i ∧ i < 8 := by omega
    have RK := p1.rl hR
    have e3 : K 3 = I 3 := p1.1 3 (by decide)
    obtain ⟨c1, c2, -⟩ := c_wk w8
    have hq := W_weighs (X := X) w8 (RK.2.2.2.1.2 i p0 (by rw [e3]; exact hi))
    have one := ((p1.2 i p0 (by omega)).2 0 (by omega) (by omega)).2 (fun y => by omega)
    show ∃ s', f_T_flat_20 X i K = f_T_flat_20 X (i + 1) s' ∧ _
    rw [e_T_flat_20, e3, if_pos hi, if_pos w8, c1, c2]
    simp only [show Nat.beq 5 5 = true from rfl, cond_true]
    by_cases z : wgh I i
    · obtain ⟨L, l1, l2, l3, l4⟩ := U_lookForStill (X := X) (I := K) w8
      rw [one] at l4
      rw [hq.1 ((p1.wg i).mpr z)]
      simp only [Option.bind_some]
      rw [if_neg (by decide), l1]
      simp only [Option.bind_some]
      rw [if_pos (by omega)]
      refine ⟨L, rfl, by omega, (p1.add w8 l2 l3 (fun a a0 a1 => l4 a a0 (by omega)) (fun _ _ _ => rfl)).iff (fun w w0 w1 => ⟨fun y => ?_, fun y => ?_⟩)⟩
      · rcases y with y | y
        · exact ⟨by omega, y.2⟩
        · rw [y]; exact ⟨by omega, z⟩
      · by_cases x : w = i
        · exact Or.inr x
        · exact Or.inl ⟨by omega, y.2⟩
    · rw [hq.2 (fun y => z ((p1.wg i).mp y))]
      simp only [Option.bind_some]
      rw [if_pos trivial, if_pos (by omega)]
      refine ⟨K, rfl, by omega, p1.iff (fun w w0 w1 => ⟨fun y => ⟨by omega, y.2⟩, fun y => ⟨?_, y.2⟩⟩)⟩
      have : w ≠ i := fun e => z (by rw [← e]; exact y.2)
      omega) (i := 0) (s := J) (by omega) ⟨Int.le_refl 0, h.iff (fun w w0 w1 => ⟨fun y => absurd y id, fun y => by omega⟩)⟩
  refine ⟨K, ?_, g3⟩
  refine g1.trans ?_
  show f_T_flat_20 X (I 3 3) K = _
  rw [e_T_flat_20, g3.1 3 (by decide), if_neg (by omega)]
end LKS
