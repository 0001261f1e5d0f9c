section STM
variable {X : pm_XT} {I : pm_I}
theorem lst_rows {J : pm_I} (e6 : J 6 = I 6) (e7 : J 7 = I 7) (e11 : J 11 = I 11) (e12 : J 12 = I 12) (e13 : J 13 = I 13) (k : Int) (σ : stT) : lst J k σ = lst I k σ := by
  unfold lst gP
  rw [e6, e7, e11, e12, e13]
theorem rl_rows {J : pm_I} (e6 : J 6 = I 6) (e7 : J 7 = I 7) (e11 : J 11 = I 11) (e12 : J 12 = I 12) (e13 : J 13 = I 13) (σ : stT) : ∀ k : Nat, rl J σ k = rl I σ k
  | 0 => rfl
  | k + 1 => by
    show lst J k (rl J σ k) = lst I k (rl I σ k)
    rw [rl_rows e6 e7 e11 e12 e13 σ k, lst_rows e6 e7 e11 e12 e13]
theorem rr_rows {J : pm_I} (e6 : J 6 = I 6) (e7 : J 7 = I 7) (e10 : J 10 1 = I 10 1) (e11 : J 11 = I 11) (e12 : J 12 = I 12) (e13 : J 13 = I 13) (σ : stT) : ∀ r : Nat, rr J σ r = rr I σ r
  | 0 => rfl
  | r + 1 => by
    show rl J (rr J σ r) (J 10 1).toNat = rl I (rr I σ r) (I 10 1).toNat
    rw [rr_rows e6 e7 e10 e11 e12 e13 σ r, rl_rows e6 e7 e11 e12 e13, e10]
theorem rl_ag {σ τ : stT} (hB : RlB I) (h : Ag (I 10 0) σ τ) : ∀ k : Nat, (k : Int) ≤ I 10 1 → Ag (I 10 0) (rl I σ k) (rl I τ k)
  | 0, _ => h
  | k + 1, hk => lst_ag hB ⟨by omega, by omega⟩ (rl_ag hB h k (by omega))
theorem rr_ag {σ τ : stT} (hB : RlB I) (h : Ag (I 10 0) σ τ) : ∀ r : Nat, Ag (I 10 0) (rr I σ r) (rr I τ r)
  | 0 => h
  | r + 1 => rl_ag hB (rr_ag hB h r) _ (by have := hB.2.1; omega)
theorem rl_vl {σ : stT} (hG : RlG I) (hB : RlB I) (ht : ∀ k, 0 ≤ k → k < I 10 1 → 0 ≤ I 13 k ∧ I 13 k < I 4 0) (h : Vl (I 10 0) (I 4 0) σ) : ∀ k : Nat, (k : Int) ≤ I 10 1 → Vl (I 10 0) (I 4 0) (rl I σ k)
  | 0, _ => h
  | k + 1, hk => lst_vl hG hB (ht k (by omega) (by omega)) ⟨by omega, by omega⟩ (rl_vl hG hB ht h k (by omega))
theorem rr_vl {σ : stT} (hG : RlG I) (hB : RlB I) (ht : ∀ k, 0 ≤ k → k < I 10 1 → 0 ≤ I 13 k ∧ I 13 k < I 4 0) (h : Vl (I 10 0) (I 4 0) σ) : ∀ r : Nat, Vl (I 10 0) (I 4 0) (rr I σ r)
  | 0 => h
  | r + 1 => rl_vl hG hB ht (rr_vl hG hB ht h r) _ (by have := hB.2.1; omega)
theorem up_fn (I : pm_I) (r : Nat) (k v : Int) : pm_up I r k v r = up1 (I r) k v := by
  funext j
  rw [up_at]
  rfl
theorem B_reachAlong (hG : RlG I) (hB : RlB I) {k : Int} (hk : 0 ≤ k ∧ k < I 10 1) (ht : 0 ≤ I 13 k ∧ I 13 k < I 4 0) (hv : Vl (I 10 0) (I 4 0) (I 16, I 17)) (hi : inT (I 11) (I 12) k = true) : ∃ J, f_B_reachAlong X k I = some (0, J) ∧ fr [16, 17] I J ∧ (J 16, J 17) = lst I k (I 16, I 17) := by
  have b := (hB.2.2.1 k hk.1 hk.2).2
  have l := hB.2.1
  have pb := hB.1
  have hn := hG.n
  have v1 := hv _ b.1.1 b.1.2
  have v2 := hv _ b.2.1 b.2.2
  have bk := hG.bk ht
  have v1 : (0 ≤ I 16 (I 11 k) ∧ I 16 (I 11 k) < I 4 0) ∧ (I 17 (I 11 k) = 0 ∨ I 17 (I 11 k) = 1) := v1
  have v2 : (0 ≤ I 16 (I 12 k) ∧ I 16 (I 12 k) < I 4 0) ∧ (I 17 (I 12 k) = 0 ∨ I 17 (I 12 k) = 1) := v2
  have c10 : 0 ≤ k ∧ k < 10 := by omega
  have cf : 0 ≤ I 11 k ∧ I 11 k < 6 := by omega
  have ct : 0 ≤ I 12 k ∧ I 12 k < 6 := by omega
  rw [e_B_reachAlong]
  simp only [if_pos c10, if_pos cf, if_pos ct]
  rw [G_product (by omega) (by omega), G_product (by omega) (by omega)]
  simp only [Option.bind_some, if_pos cf, if_pos ct, if_pos (show 0 ≤ I 13 k ∧ I 13 k < 8 by omega)]
  unfold lst
  rw [if_pos hi]
  show ∃ J : pm_I, _ ∧ _ ∧ (J 16, J 17) = if ¬ I 17 (I 11 k) = 0 ∧ I 17 (I 12 k) = 0 then (up1 (I 16) (I 12 k) (gP I (I 16 (I 11 k)) (I 13 k)), up1 (I 17) (I 12 k) 1) else if ¬ I 17 (I 12 k) = 0 ∧ I 17 (I 11 k) = 0 then (up1 (I 16) (I 11 k) (gP I (I 16 (I 12 k)) (I 7 (I 13 k))), up1 (I 17) (I 11 k) 1) else (I 16, I 17)
  by_cases q1 : I 17 (I 11 k) = 0
  · by_cases q2 : I 17 (I 12 k) = 0
    · simp only [if_pos q1, if_pos q2]
      exact ⟨I, rfl, fr.rf _ _, by rw [if_neg (fun z => z.1 q1), if_neg (fun z => z.1 q2)]⟩
    · simp only [if_pos q1, if_neg q2]
      refine ⟨_, rfl, ((fr.rf _ I).up (by decide)).up (by decide), ?_⟩
      rw [if_neg (fun z => z.1 q1), if_pos ⟨q2, q1⟩, up_rw _ (by decide), up_fn, up_fn, up_rw _ (by decide)]
  · by_cases q2 : I 17 (I 12 k) = 0
    · simp only [if_neg q1, if_pos q2]
      refine ⟨_, rfl, ((fr.rf _ I).up (by decide)).up (by decide), ?_⟩
      rw [if_pos ⟨q1, q2⟩, up_rw _ (by decide), up_fn, up_fn, up_rw _ (by decide)]
    · simp only [if_neg q1, if_neg q2]
      exact ⟨I, rfl, fr.rf _ _, by rw [if_neg (fun z => q2 z.2), if_neg (fun z => q1 z.2)]⟩
/-- the class's rounds -/
theorem B_shiftToStill (hG : RlG I) (hB : RlB I) (ht : ∀ k, 0 ≤ k → k < I 10 1 → 0 ≤ I 13 k ∧ I 13 k < I 4 0) : ∃ J, f_B_shiftToStill X I = some (0, J) ∧ fr [16, 17] I J ∧ ∀ p, 0 ≤ p → p < I 10 0 → J 16 p = (rr I (st0 I) (I 10 0 - 1).toNat).1 p ∧ 0 ≤ J 16 p ∧ J 16 p < I 4 0 := by
  have l := hB.2.1
  have pb := hB.1
  have hn := hG.n
  obtain ⟨J0, h1, h2, h3, h4⟩ := pl_loop (fun i (J : pm_I) => f_B_shiftToStill_2 X i J) (I 10 0) (fun i J => 0 ≤ i ∧ fr [16, 17] I J ∧ ∀ p, 0 ≤ p → p < i → J 16 p = 0 ∧ J 17 p = (st0 I).2 p) (fun i J hi hp => by
    obtain ⟨p0, p1, p2⟩ := hp
    have e15 : J 15 i = pt (I 11) (I 12) (I 10 1).toNat i := by rw [p1 15 (by decide)]; exact hB.2.2.2.1 i p0 hi
    have c6 : 0 ≤ i ∧ i < 6 := by omega
    show ∃ s', f_B_shiftToStill_2 X i J = f_B_shiftToStill_2 X (i + 1) s' ∧ _
    rw [e_B_shiftToStill_2, p1 10 (by decide), if_pos hi, e15]
    simp only [if_pos c6, if_pos (show pm_r32 (i + 1) by omega)]
    have fin : ∀ v, v = (st0 I).2 i → 0 ≤ i + 1 ∧ fr [16, 17] I (pm_up (pm_up J 17 i v) 16 i 0) ∧ ∀ p, 0 ≤ p → p < i + 1 → pm_up (pm_up J 17 i v) 16 i 0 16 p = 0 ∧ pm_up (pm_up J 17 i v) 16 i 0 17 p = (st0 I).2 p := fun v hv => by
      refine ⟨by omega, (p1.up (by decide)).up (by decide), fun p z0 z1 => ?_⟩
      rw [up_at, up_rw _ (by decide), up_rw _ (by decide), up_at]
      by_cases z : p = i
      · rw [if_pos z, if_pos z, z]; exact ⟨rfl, hv⟩
      · rw [if_neg z, if_neg z]; exact p2 p z0 (by omega)
    by_cases q : pt (I 11) (I 12) (I 10 1).toNat i = i
    · rw [if_pos q]
      exact ⟨_, rfl, fin 1 (by show _ = if _ then _ else _; rw [if_pos q])⟩
    · rw [if_neg q]
      exact ⟨_, rfl, fin 0 (by show _ = if _ then _ else _; rw [if_neg q])⟩) (i := 0) (s := I) pb.1 ⟨Int.le_refl 0, fr.rf _ _, fun p z0 z1 => by omega⟩
  have s0u : ∀ p, (st0 I).2 p = 0 ∨ (st0 I).2 p = 1 := fun p => by
    show (if _ then (1 : Int) else 0) = 0 ∨ (if _ then (1 : Int) else 0) = 1
    split <;> omega
  have ag0 : Ag (I 10 0) (J0 16, J0 17) (st0 I) := fun p p0 p1 => ⟨(h4 p p0 p1).1, (h4 p p0 p1).2⟩
  have vl0 : Vl (I 10 0) (I 4 0) (J0 16, J0 17) := fun p p0 p1 => by
    have := h4 p p0 p1
    show (0 ≤ J0 16 p ∧ J0 16 p < I 4 0) ∧ (J0 17 p = 0 ∨ J0 17 p = 1)
    rw [this.1, this.2]
    exact ⟨by omega, s0u p⟩
  -- a round
  have round : ∀ (L : pm_I) (r : Int) (σ : stT), fr [16, 17] I L → (L 16, L 17) = σ → Vl (I 10 0) (I 4 0) σ → ∃ J, f_B_shiftToStill_56 X r 0 L = f_B_shiftToStill_56 X r (I 10 1) J ∧ fr [16, 17] I J ∧ (J 16, J 17) = rl I σ (I 10 1).toNat := fun L r σ fL hL vL => by
    obtain ⟨J, g1, g2, g3, g4⟩ := pl_loop (fun i (J : pm_I) => f_B_shiftToStill_56 X r i J) (I 10 1) (fun i J => 0 ≤ i ∧ fr [16, 17] I J ∧ (J 16, J 17) = rl I σ i.toNat) (fun i J hi hp => by
      obtain ⟨p0, p1, p2⟩ := hp
      have e14 : J 14 i = bif inT (I 11) (I 12) i then 1 else 0 := by rw [p1 14 (by decide)]; exact hB.2.2.2.2.1 i p0 hi
      have eN : ((i.toNat : Nat) : Int) = i := by omega
      have est : rl I σ (i + 1).toNat = lst I i (rl I σ i.toNat) := by
        rw [show (i + 1).toNat = i.toNat + 1 by omega]
        show lst I ((i.toNat : Nat) : Int) _ = _
        rw [eN]
      show ∃ s', f_B_shiftToStill_56 X r i J = f_B_shiftToStill_56 X r (i + 1) s' ∧ _
      rw [e_B_shiftToStill_56, p1 10 (by decide), if_pos hi, if_pos (by omega), e14]
      cases hin : inT (I 11) (I 12) i with
      | false =>
        rw [cond_false, if_pos rfl, if_pos (by omega)]
        refine ⟨J, rfl, by omega, p1, ?_⟩
        rw [est, p2]
        unfold lst
        rw [hin, if_neg (by decide)]
      | true =>
        have hGJ : RlG J := hG.fr p1 (by decide)
        have hBJ : RlB J := hB.fr p1 (by decide)
        have vJ : Vl (J 10 0) (J 4 0) (J 16, J 17) := by
          rw [p1 10 (by decide), p1 4 (by decide), p2]
          exact rl_vl hG hB ht vL _ (by omega)
        obtain ⟨K, k1, k2, k3⟩ := B_reachAlong (X := X) hGJ hBJ (k := i) (by rw [p1 10 (by decide)]; exact ⟨p0, hi⟩) (by rw [p1 13 (by decide), p1 4 (by decide)]; exact ht i p0 hi) vJ (by rw [p1 11 (by decide), p1 12 (by decide)]; exact hin)
        rw [cond_true, if_neg (by decide), k1]
        simp only [Option.bind_some]
        rw [if_pos (by omega)]
        refine ⟨K, rfl, by omega, p1.tr k2, ?_⟩
        rw [k3, est, p2, lst_rows (p1 6 (by decide)) (p1 7 (by decide)) (p1 11 (by decide)) (p1 12 (by decide)) (p1 13 (by decide))]) (i := 0) (s := L) l.1 ⟨Int.le_refl 0, fL, hL⟩
    exact ⟨J, g1, g3, g4⟩
  by_cases hp : I 10 0 < 1
  · refine ⟨J0, ?_, h3, fun p p0 p1 => by omega⟩
    rw [e_B_shiftToStill]
    refine h1.trans ?_
    show f_B_shiftToStill_2 X (I 10 0) J0 = _
    rw [e_B_shiftToStill_2, h3 10 (by decide), if_neg (by omega), e_B_shiftToStill_46, h3 10 (by decide), if_neg (by omega)]
  · obtain ⟨J, g1, g2, g3, g4⟩ := pl_loop (fun i (J : pm_I) => f_B_shiftToStill_46 X i J) (I 10 0) (fun i J => 1 ≤ i ∧ fr [16, 17] I J ∧ (J 16, J 17) = rr I (J0 16, J0 17) (i - 1).toNat) (fun i J hi hp => by
      obtain ⟨p0, p1, p2⟩ := hp
      obtain ⟨K, k1, k2, k3⟩ := round J i _ p1 p2 (rr_vl hG hB ht vl0 _)
      refine ⟨K, ?_, by omega, k2, ?_⟩
      · show f_B_shiftToStill_46 X i J = f_B_shiftToStill_46 X (i + 1) K
        rw [e_B_shiftToStill_46, p1 10 (by decide), if_pos hi, k1, e_B_shiftToStill_56, k2 10 (by decide), if_neg (by omega), if_pos (by omega)]
      · rw [k3, show (i + 1 - 1).toNat = (i - 1).toNat + 1 by omega]
        rfl) (i := 1) (s := J0) (by omega) ⟨Int.le_refl 1, h3, rfl⟩
    refine ⟨J, ?_, g3, fun p p0 p1 => ?_⟩
    · rw [e_B_shiftToStill]
      refine h1.trans ?_
      show f_B_shiftToStill_2 X (I 10 0) J0 = _
      rw [e_B_shiftToStill_2, h3 10 (by decide), if_neg (by omega)]
      refine g1.trans ?_
      show f_B_shiftToStill_46 X (I 10 0) J = _
      rw [e_B_shiftToStill_46, g3 10 (by decide), if_neg (by omega)]
    · have a := rr_ag hB ag0 (I 10 0 - 1).toNat p p0 p1
      have v := rr_vl hG hB ht vl0 (I 10 0 - 1).toNat p p0 p1
      have e : J 16 = (rr I (J0 16, J0 17) (I 10 0 - 1).toNat).1 := congrArg Prod.fst g4
      rw [e]
      exact ⟨a.1, v.1⟩
/-- the reference's: backs laid in row 94, the tree in 96 and 97 -/
theorem M_still_20 (hG : RlG I) (hB : RlB I) {n : Int} {L0 : pm_I} (x77 : L0 77 4 = I 77 4) (x78 : L0 78 = I 78) (x80 : L0 80 = I 80) (x81 : L0 81 = I 81) (x82 : L0 82 = I 82) (ht : ∀ k, 0 ≤ k → k < I 10 1 → I 82 k = I 13 k ∧ 0 ≤ I 13 k ∧ I 13 k < I 4 0) (h94 : ∀ a, 0 ≤ a → a < I 4 0 → L0 94 a = I 7 a) (h96 : ∀ p, 0 ≤ p → p < 6 → L0 96 p = pt (I 11) (I 12) (I 10 1).toNat p) (h97 : ∀ k, 0 ≤ k → k < I 10 1 → L0 97 k = I 14 k) : ∃ J, f_M_still_20 X n 0 L0 = f_M_still_59 X n 6 J ∧ fr [95, 98] L0 J ∧ ∀ p, 0 ≤ p → p < I 10 0 → J 95 p = (rr I (st0 I) (I 10 0 - 1).toNat).1 p := by
  have l := hB.2.1
  have pb := hB.1
  have hn := hG.n
  have ht2 : ∀ k, 0 ≤ k → k < I 10 1 → 0 ≤ I 13 k ∧ I 13 k < I 4 0 := fun k a b => (ht k a b).2
  obtain ⟨J0, h1, h2, h3, h4⟩ := pl_loop (fun i (J : pm_I) => f_M_still_20 X n i J) 6 (fun i J => 0 ≤ i ∧ fr [95, 98] L0 J ∧ ∀ p, 0 ≤ p → p < i → J 95 p = 0 ∧ J 98 p = (st0 I).2 p) (fun i J hi hp => by
    obtain ⟨p0, p1, p2⟩ := hp
    have e96 : J 96 i = pt (I 11) (I 12) (I 10 1).toNat i := by rw [p1 96 (by decide)]; exact h96 i p0 hi
    have c6 : 0 ≤ i ∧ i < 6 := by omega
    show ∃ s', f_M_still_20 X n i J = f_M_still_20 X n (i + 1) s' ∧ _
    rw [e_M_still_20, if_pos hi, e96]
    simp only [if_pos c6, if_pos (show pm_r32 (i + 1) by omega)]
    have fin : ∀ v, v = (st0 I).2 i → 0 ≤ i + 1 ∧ fr [95, 98] L0 (pm_up (pm_up J 98 i v) 95 i 0) ∧ ∀ p, 0 ≤ p → p < i + 1 → pm_up (pm_up J 98 i v) 95 i 0 95 p = 0 ∧ pm_up (pm_up J 98 i v) 95 i 0 98 p = (st0 I).2 p := fun v hv => by
      refine ⟨by omega, (p1.up (by decide)).up (by decide), fun p z0 z1 => ?_⟩
      rw [up_at, up_rw _ (by decide), up_rw _ (by decide), up_at]
      by_cases z : p = i
      · rw [if_pos z, if_pos z, z]; exact ⟨rfl, hv⟩
      · rw [if_neg z, if_neg z]; exact p2 p z0 (by omega)
    by_cases q : pt (I 11) (I 12) (I 10 1).toNat i = i
    · rw [if_pos q]
      exact ⟨_, rfl, fin 1 (by show _ = if _ then _ else _; rw [if_pos q])⟩
    · rw [if_neg q]
      exact ⟨_, rfl, fin 0 (by show _ = if _ then _ else _; rw [if_neg q])⟩) (i := 0) (s := L0) (by omega) ⟨Int.le_refl 0, fr.rf _ _, fun p z0 z1 => by omega⟩
  have s0u : ∀ p, (st0 I).2 p = 0 ∨ (st0 I).2 p = 1 := fun p => by
    show (if _ then (1 : Int) else 0) = 0 ∨ (if _ then (1 : Int) else 0) = 1
    split <;> omega
  have ag0 : Ag (I 10 0) (J0 95, J0 98) (st0 I) := fun p p0 p1 => ⟨(h4 p p0 (by omega)).1, (h4 p p0 (by omega)).2⟩
  have vl0 : Vl (I 10 0) (I 4 0) (J0 95, J0 98) := fun p p0 p1 => by
    have := h4 p p0 (by omega)
    show (0 ≤ J0 95 p ∧ J0 95 p < I 4 0) ∧ (J0 98 p = 0 ∨ J0 98 p = 1)
    rw [this.1, this.2]
    exact ⟨by omega, s0u p⟩
  have round : ∀ (L : pm_I) (r : Int) (σ : stT), fr [95, 98] L0 L → (L 95, L 98) = σ → Vl (I 10 0) (I 4 0) σ → ∃ J, f_M_still_68 X n r 0 L = f_M_still_68 X n r (I 10 1) J ∧ fr [95, 98] L0 J ∧ (J 95, J 98) = rl I σ (I 10 1).toNat := fun L r σ fL hL vL => by
    obtain ⟨J, g1, g2, g3, g4⟩ := pl_loop (fun i (J : pm_I) => f_M_still_68 X n r i J) (I 10 1) (fun i J => 0 ≤ i ∧ fr [95, 98] L0 J ∧ (J 95, J 98) = rl I σ i.toNat) (fun i J hi hp => by
      obtain ⟨p0, p1, p2⟩ := hp
      have b := hB.2.2.1 i p0 hi
      have e97 : J 97 i = bif inT (I 11) (I 12) i then 1 else 0 := by rw [p1 97 (by decide), h97 i p0 hi]; exact hB.2.2.2.2.1 i p0 hi
      have e80 : J 80 i = I 11 i := by rw [p1 80 (by decide), x80]; exact b.1.1
      have e81 : J 81 i = I 12 i := by rw [p1 81 (by decide), x81]; exact b.1.2
      have e82 : J 82 i = I 13 i := by rw [p1 82 (by decide), x82]; exact (ht i p0 hi).1
      have eN : ((i.toNat : Nat) : Int) = i := by omega
      have est : rl I σ (i + 1).toNat = lst I i (rl I σ i.toNat) := by
        rw [show (i + 1).toNat = i.toNat + 1 by omega]
        show lst I ((i.toNat : Nat) : Int) _ = _
        rw [eN]
      rw [← p2] at est
      have vJ : Vl (I 10 0) (I 4 0) (J 95, J 98) := by
        rw [p2]
        exact rl_vl hG hB ht2 vL _ (by omega)
      have v1 := vJ _ b.2.1.1 b.2.1.2
      have v2 := vJ _ b.2.2.1 b.2.2.2
      have v1 : (0 ≤ J 95 (I 11 i) ∧ J 95 (I 11 i) < I 4 0) ∧ (J 98 (I 11 i) = 0 ∨ J 98 (I 11 i) = 1) := v1
      have v2 : (0 ≤ J 95 (I 12 i) ∧ J 95 (I 12 i) < I 4 0) ∧ (J 98 (I 12 i) = 0 ∨ J 98 (I 12 i) = 1) := v2
      have tt := ht2 i p0 hi
      have bb := hG.bk tt
      have c10 : 0 ≤ i ∧ i < 10 := by omega
      have cf : 0 ≤ I 11 i ∧ I 11 i < 6 := by omega
      have ct : 0 ≤ I 12 i ∧ I 12 i < 6 := by omega
      have e94 : J 94 (I 13 i) = I 7 (I 13 i) := by rw [p1 94 (by decide)]; exact h94 _ tt.1 tt.2
      show ∃ s', f_M_still_68 X n r i J = f_M_still_68 X n r (i + 1) s' ∧ _
      rw [e_M_still_68, p1 77 (by decide), x77, l.2.2, if_pos hi, e97, e80, e81, e82, e94]
      simp only [if_pos c10, if_pos cf, if_pos ct, if_pos (show 0 ≤ I 13 i ∧ I 13 i < 8 by omega), if_pos (show pm_r32 (i + 1) by omega)]
      rw [M_product (by omega) (by omega), M_product (by omega) (by omega), p1 78 (by decide), x78, hG.2.2.1 _ _ v2.1.1 v2.1.2 bb.1 bb.2, hG.2.2.1 _ _ v1.1.1 v1.1.2 tt.1 tt.2]
      simp only [Option.bind_some, if_pos cf, if_pos ct, if_pos (show pm_r32 (i + 1) by omega)]
      unfold lst at est
      cases hin : inT (I 11) (I 12) i with
      | false =>
        rw [hin, if_neg (by decide)] at est
        rw [cond_false, if_pos rfl]
        exact ⟨J, rfl, by omega, p1, est.symm⟩
      | true =>
        rw [hin, if_pos rfl] at est
        have est : rl I σ (i + 1).toNat = if ¬ J 98 (I 11 i) = 0 ∧ J 98 (I 12 i) = 0 then (up1 (J 95) (I 12 i) (gP I (J 95 (I 11 i)) (I 13 i)), up1 (J 98) (I 12 i) 1) else if ¬ J 98 (I 12 i) = 0 ∧ J 98 (I 11 i) = 0 then (up1 (J 95) (I 11 i) (gP I (J 95 (I 12 i)) (I 7 (I 13 i))), up1 (J 98) (I 11 i) 1) else (J 95, J 98) := est
        rw [cond_true, if_neg (by decide)]
        by_cases q1 : J 98 (I 11 i) = 0
        · by_cases q2 : J 98 (I 12 i) = 0
          · rw [if_neg (fun z => z.1 q1), if_neg (fun z => z.1 q2)] at est
            rw [if_pos (q1.trans q2.symm)]
            exact ⟨J, rfl, by omega, p1, est.symm⟩
          · rw [if_neg (fun z => z.1 q1), if_pos ⟨q2, q1⟩] at est
            rw [if_neg (fun z => q2 (z.symm.trans q1)), if_pos q1]
            refine ⟨_, rfl, by omega, (p1.up (by decide)).up (by decide), ?_⟩
            rw [est, up_rw _ (by decide), up_fn, up_fn, up_rw _ (by decide)]
        · have q2' : J 98 (I 12 i) = 0 ∨ ¬ J 98 (I 12 i) = 0 := by omega
          rcases q2' with q2 | q2
          · rw [if_pos ⟨q1, q2⟩] at est
            rw [if_neg (fun z => q1 (z.trans q2)), if_neg q1]
            refine ⟨_, rfl, by omega, (p1.up (by decide)).up (by decide), ?_⟩
            rw [est, up_rw _ (by decide), up_fn, up_fn, up_rw _ (by decide)]
          · rw [if_neg (fun z => q2 z.2), if_neg (fun z => q1 z.2)] at est
            rw [if_pos (by omega)]
            exact ⟨J, rfl, by omega, p1, est.symm⟩) (i := 0) (s := L) l.1 ⟨Int.le_refl 0, fL, hL⟩
    exact ⟨J, g1, g3, g4⟩
  obtain ⟨J, g1, g2, g3, g4⟩ := pl_loop (fun i (J : pm_I) => f_M_still_59 X n i J) 6 (fun i J => 0 ≤ i ∧ fr [95, 98] L0 J ∧ (J 95, J 98) = rr I (J0 95, J0 98) i.toNat) (fun i J hi hp => by
    obtain ⟨p0, p1, p2⟩ := hp
    obtain ⟨K, k1, k2, k3⟩ := round J i _ p1 p2 (rr_vl hG hB ht2 vl0 _)
    refine ⟨K, ?_, by omega, k2, ?_⟩
    · show f_M_still_59 X n i J = f_M_still_59 X n (i + 1) K
      rw [e_M_still_59, if_pos hi, k1, e_M_still_68, k2 77 (by decide), x77, l.2.2, if_neg (by omega), if_pos (by omega)]
    · rw [k3, show (i + 1).toNat = i.toNat + 1 by omega]
      rfl) (i := 0) (s := J0) (by omega) ⟨Int.le_refl 0, h3, rfl⟩
  refine ⟨J, ?_, g3, fun p p0 p1 => ?_⟩
  · refine h1.trans ?_
    show f_M_still_20 X n 6 J0 = _
    rw [e_M_still_20, if_neg (by omega)]
    exact g1
  · have a := rr_ag hB ag0 6 p p0 p1
    have e : J 95 = (rr I (J0 95, J0 98) 6).1 := congrArg Prod.fst g4
    have fx := rr_fix6 hB (6 - (I 10 0 - 1).toNat)
    rw [show (I 10 0 - 1).toNat + (6 - (I 10 0 - 1).toNat) = 6 by omega] at fx
    rw [e, a.1, fx]
end STM
