theorem fp_fr {I J : pm_I} (f : fr [73, 74, 75, 76] I J) {P : Int → Bool} {t : Int → Int} : ∀ {k : Nat}, k ≤ 8 → fp J P t k = fp I P t k
  | 0, _ => rfl
  | k + 1, hk => by
    have e : wtt J t k = wtt I t k := by
      unfold wtt gP
      rw [f 6 (by decide), f 7 (by decide), f 84 (by decide), f (wk k + 1) (by simp only [List.mem_cons, List.not_mem_nil, or_false]; unfold wk; omega), f (wk k + 2) (by simp only [List.mem_cons, List.not_mem_nil, or_false]; unfold wk; omega)]
    show fp J P t k * (bif decide (J 63 k = 0) then 1 else bif P k then J (65 + k) (wtt J t k) else 1) = fp I P t k * (bif decide (I 63 k = 0) then 1 else bif P k then I (65 + k) (wtt I t k) else 1)
    rw [fp_fr f (k := k) (by omega), e, f 63 (by decide), f (65 + k) (by simp only [List.mem_cons, List.not_mem_nil, or_false]; omega)]
theorem LK.fr {I J : pm_I} (h : LK I) (f : fr [73, 74, 75, 76] I J) : LK J := by
  refine ⟨fun w w0 w1 => ?_, fun w a w0 w1 => ?_⟩
  · rw [f 63 (by decide), f 3 (by decide), f 84 (by decide)]; exact h.1 w w0 w1
  · rw [f 4 (by decide), f (65 + w.toNat) (by simp only [List.mem_cons, List.not_mem_nil, or_false]; omega)]; exact h.2 w a w0 w1
/-- what marking leaves -/
def MK (I : pm_I) : Prop := (∀ w, 0 ≤ w → w < 8 → I 63 w ≠ 0 → (0 ≤ I 73 w ∧ I 73 w < I 10 1) ∧ ∀ s, 0 ≤ s → s < I 84 w → I (wk w + 1) s ≤ I 73 w ∧ I 74 (I (wk w + 1) s) ≠ 0) ∧
  ∀ k, 0 ≤ k → k < 10 → (I 75 k = 0 ↔ I 14 k = 0 ∧ I 74 k ≠ 0)
abbrev Gf (H : pm_I) : (Int → Int) → Int := fun t => fp H (fun _ => true) t 8
section FRM
variable {X : pm_XT}
theorem U_sumFrom {H : pm_I} (h : LK H) (hR : Rl H) (hM : MK H) : ∀ (d : Nat) (j wgt : Int) (A : pm_I), j + d = H 10 1 → 0 ≤ j → fr [76] H A → (∀ k, 0 ≤ k → k < j → 0 ≤ A 76 k ∧ A 76 k < H 4 0) → wgt = fp H (fun w => decide (H 73 w < j)) (A 76) 8 →
    ∃ A', f_U_sumFrom X (3 + (10 - j).toNat) j wgt (H 10 1) A = some (SM (Gf H) (H 4 0).toNat (inT (H 11) (H 12)) d j (A 76), A') ∧ fr [76] H A' ∧ ∀ k, k < j → A' 76 k = A 76 k
  | 0, j, wgt, A, hd, j0, f, ht, hw => by
    refine ⟨A, ?_, f, fun _ _ => rfl⟩
    rw [e_U_sumFrom, if_neg (by omega), hw]
    show some (_, A) = some (fp H (fun _ => true) (A 76) 8, A)
    rw [fp_ct (Q := fun _ => true) (t' := A 76) (fun w hw hl => by
      have := (hM.1 w (by omega) (by omega) hl).1
      exact decide_eq_true (by omega)) (fun _ _ _ _ _ _ _ => rfl)]
  | d + 1, j, wgt, A, hd, j0, f, ht, hw => by
    obtain ⟨hG, hB, hT, hW, hS, hV⟩ := id hR
    have hn := hG.n
    have l := hB.2.1
    have nN : (((H 4 0).toNat : Nat) : Int) = H 4 0 := by omega
    have b14 := hB.2.2.2.2.1 j j0 (by omega)
    have b75 := hM.2 j j0 (by omega)
    -- the whole weight reads lines that are there, and used
    have gd : ∀ t t' : Int → Int, (∀ k, 0 ≤ k → k < j + 1 + d → H 74 k ≠ 0 → t k = t' k) → Gf H t = Gf H t' := fun t t' q => fp_ct (fun _ _ _ => rfl) (fun w hw hl _ s s0 s1 => by
      have z := h.ln hW ⟨by omega, by omega⟩ hl s0 s1
      exact q _ z.1 (by omega) ((hM.1 w (by omega) (by omega) hl).2 s s0 s1).2)
    have gd1 : ∀ t t' : Int → Int, (∀ k, 0 ≤ k → k < j + 1 + d → True → t k = t' k) → Gf H t = Gf H t' := fun t t' q => gd t t' (fun k a b _ => q k a b trivial)
    have gb : ∀ t : Int → Int, (∀ k, 0 ≤ k → k < j + 1 + d → 0 ≤ t k ∧ t k < ((H 4 0).toNat : Nat)) → 0 ≤ Gf H t ∧ Gf H t ≤ 43046721 := fun t q => fp_b h hG hW (fun w w0 w1 hl _ s s0 s1 => by
      have z := h.ln hW ⟨w0, w1⟩ hl s0 s1
      have := q _ z.1 (by omega)
      omega) (Nat.le_refl 8)
    have np : 0 < (H 4 0).toNat := by omega
    have p10 : ((H 4 0).toNat : Int) ^ d * 43046721 ≤ 134217728 * 43046721 := by
      refine Int.mul_le_mul_of_nonneg_right ?_ (by omega)
      have hd9 : d ≤ 9 := by omega
      have h8 : (H 4 0).toNat ≤ 8 := by omega
      have : (H 4 0).toNat ^ d ≤ 8 ^ 9 := Nat.le_trans (Nat.pow_le_pow_left h8 d) (Nat.pow_le_pow_right (by omega) hd9)
      have e : (((H 4 0).toNat ^ d : Nat) : Int) = ((H 4 0).toNat : Int) ^ d := Int.natCast_pow _ _
      rw [← e]
      omega
    have vb : ∀ a : Int, 0 ≤ a → a < H 4 0 → 0 ≤ SM (Gf H) (H 4 0).toNat (inT (H 11) (H 12)) d (j + 1) (ud (A 76) j a) ∧ SM (Gf H) (H 4 0).toNat (inT (H 11) (H 12)) d (j + 1) (ud (A 76) j a) ≤ 134217728 * 43046721 := fun a a0 a1 => by
      have q := SM_bd (tr := inT (H 11) (H 12)) np gb (ud_in (n := (H 4 0).toNat) (t := A 76) (j := j) (a := a) (fun k k0 k1 => by have := ht k k0 k1; omega) (by omega))
      exact ⟨q.1, Int.le_trans q.2 p10⟩
    have sb : ∀ k : Nat, (k : Int) ≤ H 4 0 → 0 ≤ sm (fun a => SM (Gf H) (H 4 0).toNat (inT (H 11) (H 12)) d (j + 1) (ud (A 76) j a)) k ∧ sm (fun a => SM (Gf H) (H 4 0).toNat (inT (H 11) (H 12)) d (j + 1) (ud (A 76) j a)) k ≤ 8 * (134217728 * 43046721) := fun k hk => by
      have q := sm_bd (g := fun a => SM (Gf H) (H 4 0).toNat (inT (H 11) (H 12)) d (j + 1) (ud (A 76) j a)) (M := 134217728 * 43046721) (k := k) (fun i hi => vb i (by omega) (by omega))
      refine ⟨q.1, Int.le_trans q.2 ?_⟩
      refine Int.mul_le_mul_of_nonneg_right ?_ (by omega)
      omega
    -- the loop over the turns of line j
    have loop : ∀ many : Int, 0 ≤ many → many ≤ H 4 0 → ∃ A', f_U_sumFrom_40 X (3 + (10 - j).toNat) j wgt (H 10 1) many 0 0 A = f_U_sumFrom_40 X (3 + (10 - j).toNat) j wgt (H 10 1) many (sm (fun a => SM (Gf H) (H 4 0).toNat (inT (H 11) (H 12)) d (j + 1) (ud (A 76) j a)) many.toNat) many A' ∧ fr [76] H A' ∧ ∀ k, k < j → A' 76 k = A 76 k := fun many m0 m1 => by
      obtain ⟨⟨w8, A'⟩, g1, g2, g3, g4, g5⟩ := pl_loop (σ := Int × pm_I) (fun i s => f_U_sumFrom_40 X (3 + (10 - j).toNat) j wgt (H 10 1) many s.1 i s.2) many (fun i s => 0 ≤ i ∧ s.1 = sm (fun a => SM (Gf H) (H 4 0).toNat (inT (H 11) (H 12)) d (j + 1) (ud (A 76) j a)) i.toNat ∧ fr [76] H s.2 ∧ ∀ k, k < j → s.2 76 k = A 76 k) (fun i s hi hp => by
        obtain ⟨w8, B⟩ := s
        obtain ⟨p0, p1, p2, p3⟩ := hp
        simp only at p1 p2 p3
        have ei : sm (fun a => SM (Gf H) (H 4 0).toNat (inT (H 11) (H 12)) d (j + 1) (ud (A 76) j a)) (i + 1).toNat = w8 + SM (Gf H) (H 4 0).toNat (inT (H 11) (H 12)) d (j + 1) (ud (A 76) j i) := by
          rw [show (i + 1).toNat = i.toNat + 1 by omega, p1]
          show sm _ i.toNat + SM (Gf H) (H 4 0).toNat (inT (H 11) (H 12)) d (j + 1) (ud (A 76) j ((i.toNat : Nat) : Int)) = _
          rw [show ((i.toNat : Nat) : Int) = i by omega]
        have s1 := sb (i + 1).toNat (by omega)
        generalize hB1 : pm_up B 76 j i = B1
        have fB : fr [76] H B1 := by rw [← hB1]; exact p2.up (by decide)
        have f4 : fr [73, 74, 75, 76] H B1 := fB.mono (by decide)
        have B76 : ∀ k, B1 76 k = if k = j then i else B 76 k := fun k => by rw [← hB1, up_at]
        have bin : ∀ k, 0 ≤ k → k < j + 1 → 0 ≤ B1 76 k ∧ B1 76 k < H 4 0 := fun k k0 k1 => by
          rw [B76]
          by_cases z : k = j
          · rw [if_pos z]; omega
          · rw [if_neg z, p3 k (by omega)]; exact ht k k0 (by omega)
        have LB : LK B1 := h.fr f4
        have RB : Rl B1 := hR.scr (fB.mono (by decide))
        have fb := U_factorBehind (X := X) (I := B1) LB RB (v := j) (fun w w0 w1 hl hv s s0 s1 => by
          rw [f4 63 (by decide)] at hl
          rw [fB 73 (by decide)] at hv
          rw [fB 84 (by decide)] at s1
          rw [fB (wk w + 1) (by simp only [List.mem_cons, List.not_mem_nil, or_false]; unfold wk; omega), fB 4 (by decide)]
          have z := h.ln hW ⟨w0, w1⟩ hl s0 s1
          have y := ((hM.1 w w0 w1 hl).2 s s0 s1).1
          exact bin _ z.1 (by omega))
        rw [fp_fr f4 (Nat.le_refl 8), fB 73 (by decide)] at fb
        -- the weight so far, with this line's factor
        have ew : wgt * fp H (fun w => decide (H 73 w = j)) (B1 76) 8 = fp H (fun w => decide (H 73 w < j + 1)) (B1 76) 8 := by
          rw [hw, fp_ct (Q := fun w => decide (H 73 w < j)) (t' := B1 76) (fun _ _ _ => rfl) (fun w hw' hl q s s0 s1 => by
            have q' : H 73 w < j := of_decide_eq_true q
            have z := h.ln hW ⟨by omega, by omega⟩ hl s0 s1
            have y := ((hM.1 w (by omega) (by omega) hl).2 s s0 s1).1
            rw [B76, if_neg (by omega), p3 _ (by omega)]), fp_mul (fun w _ q => by
            have q1 : H 73 w < j := of_decide_eq_true q.1
            have q2 : H 73 w = j := of_decide_eq_true q.2
            omega)]
          refine fp_ct (fun w _ _ => ?_) (fun _ _ _ _ _ _ _ => rfl)
          by_cases z : H 73 w < j
          · simp [z]; omega
          · by_cases y : H 73 w = j
            · simp [y]; omega
            · simp [z, y]; omega
        have wb : 0 ≤ fp H (fun w => decide (H 73 w < j + 1)) (B1 76) 8 ∧ fp H (fun w => decide (H 73 w < j + 1)) (B1 76) 8 ≤ 43046721 := fp_b h hG hW (fun w w0 w1 hl q s s0 s1 => by
          have q' : H 73 w < j + 1 := of_decide_eq_true q
          have z := h.ln hW ⟨w0, w1⟩ hl s0 s1
          have y := ((hM.1 w w0 w1 hl).2 s s0 s1).1
          exact bin _ z.1 (by omega)) (Nat.le_refl 8)
        have ec : SM (Gf H) (H 4 0).toNat (inT (H 11) (H 12)) d (j + 1) (B1 76) = SM (Gf H) (H 4 0).toNat (inT (H 11) (H 12)) d (j + 1) (ud (A 76) j i) := SM_cg gd1 (fun k k0 k1 _ => by
          rw [B76]
          unfold ud
          by_cases z : k = j
          · rw [if_pos z, if_pos z]
          · rw [if_neg z, if_neg z]; exact p3 k (by omega))
        have b1 : Nat.blt 2 (3 + (10 - j).toNat) = true := by rw [Nat.blt_eq]; omega
        have b2 : Nat.blt (3 + (10 - (j + 1)).toNat) (3 + (10 - j).toNat) = true := by rw [Nat.blt_eq]; omega
        show ∃ s' : Int × pm_I, f_U_sumFrom_40 X (3 + (10 - j).toNat) j wgt (H 10 1) many w8 i B = f_U_sumFrom_40 X (3 + (10 - j).toNat) j wgt (H 10 1) many s'.1 (i + 1) s'.2 ∧ _
        rw [e_U_sumFrom_40, if_pos hi, if_pos (by omega), b1, b2, hB1, fb]
        simp only [Bool.and_self, cond_true, Option.bind_some]
        rw [ew, w64_id (by omega)]
        by_cases z : 0 < fp H (fun w => decide (H 73 w < j + 1)) (B1 76) 8
        · obtain ⟨C, c1, c2, c3⟩ := U_sumFrom h hR hM d (j + 1) _ B1 (by omega) (by omega) fB bin rfl
          rw [if_pos z, if_pos (by omega), c1]
          simp only [Option.bind_some]
          rw [if_pos (by omega), ec, ← ei, w64_id (by omega)]
          exact ⟨(_, C), rfl, by omega, rfl, c2, fun k hk => by show C 76 k = _; rw [c3 k (by omega), B76, if_neg (by omega), p3 k hk]⟩
        · have z0 : fp H (fun w => decide (H 73 w < j + 1)) (B1 76) 8 = 0 := by omega
          have s0 : SM (Gf H) (H 4 0).toNat (inT (H 11) (H 12)) d (j + 1) (B1 76) = 0 := SM_z np (fun t q1 q2 => by
            have e := fp_mul (I := H) (P := fun w => decide (H 73 w < j + 1)) (Q := fun w => decide (j + 1 ≤ H 73 w)) (t := t) (k := 8) (fun w _ q => by
              have q1 : H 73 w < j + 1 := of_decide_eq_true q.1
              have q2 : j + 1 ≤ H 73 w := of_decide_eq_true q.2
              omega)
            rw [fp_ct (Q := fun w => decide (H 73 w < j + 1)) (t' := B1 76) (fun _ _ _ => rfl) (fun w hw' hl q s s0 s1 => by
              have q' : H 73 w < j + 1 := of_decide_eq_true q
              have z := h.ln hW ⟨by omega, by omega⟩ hl s0 s1
              have y := ((hM.1 w (by omega) (by omega) hl).2 s s0 s1).1
              exact q2 _ z.1 (by omega)), z0, Int.zero_mul] at e
            rw [e]
            exact fp_ct (fun w _ _ => by
              by_cases z : H 73 w < j + 1
              · simp [z]
              · simp [z]; omega) (fun _ _ _ _ _ _ _ => rfl)) (fun k k0 k1 => by have := bin k k0 k1; omega)
          rw [ec] at s0
          rw [s0, Int.add_zero] at ei
          rw [if_neg z, if_pos z0, if_pos (by omega)]
          exact ⟨(w8, B1), rfl, by omega, ei.symm, fB, fun k hk => by show B1 76 k = _; rw [B76, if_neg (by omega), p3 k hk]⟩) (i := 0) (s := (0, A)) m0 ⟨Int.le_refl 0, rfl, f, fun _ _ => rfl⟩
      refine ⟨A', ?_, g4, g5⟩
      rw [← g3]
      exact g1
    have e := e_U_sumFrom X (3 + (10 - j).toNat) j wgt (H 10 1) A
    rw [if_pos (by omega), if_pos (by omega), if_pos (by omega), f 75 (by decide), f 4 (by decide)] at e
    have eS : SM (Gf H) (H 4 0).toNat (inT (H 11) (H 12)) (d + 1) j (A 76) = bif inT (H 11) (H 12) j then ((H 4 0).toNat : Int) * SM (Gf H) (H 4 0).toNat (inT (H 11) (H 12)) d (j + 1) (ud (A 76) j 0) else sm (fun a => SM (Gf H) (H 4 0).toNat (inT (H 11) (H 12)) d (j + 1) (ud (A 76) j a)) (H 4 0).toNat := rfl
    by_cases z : H 75 j = 0
    · obtain ⟨A', a1, a2, a3⟩ := loop (H 4 0) (by omega) (by omega)
      rw [if_pos z, a1, e_U_sumFrom_40, if_neg (by omega), if_pos (by omega), a2 75 (by decide), if_pos z] at e
      have := (b75.mp z).1
      rw [b14] at this
      have ht0 : inT (H 11) (H 12) j = false := by
        cases hq : inT (H 11) (H 12) j with
        | false => rfl
        | true => rw [hq] at this; simp at this
      rw [ht0, cond_false] at eS
      rw [eS]
      exact ⟨A', e, a2, a3⟩
    · obtain ⟨A', a1, a2, a3⟩ := loop 1 (by omega) (by omega)
      have e1 : sm (fun a => SM (Gf H) (H 4 0).toNat (inT (H 11) (H 12)) d (j + 1) (ud (A 76) j a)) (1 : Int).toNat = SM (Gf H) (H 4 0).toNat (inT (H 11) (H 12)) d (j + 1) (ud (A 76) j 0) := by
        show 0 + SM (Gf H) (H 4 0).toNat (inT (H 11) (H 12)) d (j + 1) (ud (A 76) j ((0 : Nat) : Int)) = _
        rw [Int.zero_add]
        rfl
      have v0 := vb 0 (by omega) (by omega)
      have bb : 0 ≤ SM (Gf H) (H 4 0).toNat (inT (H 11) (H 12)) d (j + 1) (ud (A 76) j 0) * H 4 0 ∧ SM (Gf H) (H 4 0).toNat (inT (H 11) (H 12)) d (j + 1) (ud (A 76) j 0) * H 4 0 ≤ (134217728 * 43046721) * 8 := mul_b v0 (by omega)
      rw [if_neg z, a1, e1, e_U_sumFrom_40, if_neg (by omega), if_pos (by omega), a2 75 (by decide), a2 4 (by decide), if_neg z, w64_id (by omega)] at e
      have eF : SM (Gf H) (H 4 0).toNat (inT (H 11) (H 12)) (d + 1) j (A 76) = SM (Gf H) (H 4 0).toNat (inT (H 11) (H 12)) d (j + 1) (ud (A 76) j 0) * H 4 0 := by
        rw [eS]
        cases hq : inT (H 11) (H 12) j with
        | true => rw [cond_true, nN, Int.mul_comm]
        | false =>
          rw [hq] at b14
          have u0 : H 74 j = 0 := by
            rcases Classical.em (H 74 j = 0) with q | q
            · exact q
            · exact absurd (b75.mpr ⟨b14, q⟩) z
          rw [cond_false, sm_congr (h := fun _ => SM (Gf H) (H 4 0).toNat (inT (H 11) (H 12)) d (j + 1) (ud (A 76) j 0)) (fun i _ => SM_cg (p := fun k => H 74 k ≠ 0) gd (fun k k0 k1 kp => by
            unfold ud
            have : k ≠ j := fun q => kp (by rw [q]; exact u0)
            rw [if_neg this, if_neg this])), sm_const, nN, Int.mul_comm]
      rw [eF]
      exact ⟨A', e, a2, a3⟩
end FRM
