def pp (f : Int → Int) : Nat → Int
  | 0 => 1
  | k + 1 => pp f k * f k
theorem pp_congr {f g : Int → Int} : ∀ {k : Nat}, (∀ i : Nat, i < k → f i = g i) → pp f k = pp g k
  | 0, _ => rfl
  | k + 1, h => by
    show pp f k * f k = pp g k * g k
    rw [pp_congr (fun i hi => h i (by omega)), h k (by omega)]
theorem pp_one {f g : Int → Int} {v : Int} {c : Int} (h : ∀ u, u ≠ v → g u = f u) (hv : g v = c * f v) : ∀ {k : Nat}, 0 ≤ v → pp g k = if v < k then c * pp f k else pp f k
  | 0, v0 => by rw [if_neg (by omega)]; rfl
  | k + 1, v0 => by
    show pp g k * g k = if v < ((k + 1 : Nat) : Int) then c * (pp f k * f k) else pp f k * f k
    rw [pp_one h hv (k := k) v0]
    by_cases z : (k : Int) = v
    · rw [if_neg (by omega), if_pos (by omega), z, hv, ← Int.mul_assoc, ← Int.mul_assoc, Int.mul_comm c]
    · rw [h k z]
      by_cases y : v < k
      · rw [if_pos y, if_pos (by omega), Int.mul_assoc]
      · rw [if_neg y, if_neg (by omega)]
theorem pp_tail {f : Int → Int} {m : Nat} : ∀ {d : Nat}, (∀ i : Nat, m ≤ i → i < m + d → f i = 1) → pp f (m + d) = pp f m
  | 0, _ => rfl
  | d + 1, h => by
    show pp f (m + d) * f ((m + d : Nat) : Int) = _
    rw [pp_tail (fun i a b => h i a (by omega)), h (m + d) (by omega) (by omega), Int.mul_one]
theorem SM_gg {G G' : (Int → Int) → Int} {n : Nat} {tr : Int → Bool} (hn : 0 < n) : ∀ {d : Nat} {j : Int} {t : Int → Int}, (∀ t' : Int → Int, (∀ k, 0 ≤ k → k < j + d → 0 ≤ t' k ∧ t' k < n) → G t' = G' t') → (∀ k, 0 ≤ k → k < j → 0 ≤ t k ∧ t k < n) → SM G n tr d j t = SM G' n tr d j t
  | 0, j, t, hG, ht => hG t (fun k a b => ht k a (by omega))
  | d + 1, j, t, hG, ht => by
    have ih : ∀ a : Int, 0 ≤ a ∧ a < n → SM G n tr d (j + 1) (ud t j a) = SM G' n tr d (j + 1) (ud t j a) := fun a ha => SM_gg hn (fun u h => hG u (fun k a b => h k a (by omega))) (ud_in ht ha)
    show (bif tr j then n * SM G n tr d (j + 1) (ud t j 0) else sm (fun a => SM G n tr d (j + 1) (ud t j a)) n) = (bif tr j then n * SM G' n tr d (j + 1) (ud t j 0) else sm (fun a => SM G' n tr d (j + 1) (ud t j a)) n)
    rw [ih 0 (by omega), sm_congr (h := fun a => SM G' n tr d (j + 1) (ud t j a)) (fun i hi => ih i (by omega))]
noncomputable def fW (I : pm_I) (t : Int → Int) (w : Int) : Int := @ite _ (w < I 3 3 ∧ wgh I w) (Classical.propDecidable _) (I 9 (wtt I t w)) 1
noncomputable def fS (I : pm_I) (t : Int → Int) (w : Int) : Int := @ite _ (w < I 3 3 ∧ wgh I w) (Classical.propDecidable _) (if wtt I t w = 0 then 1 else 0) 1
/-- the weight of a filling; of one that is still; of one held against a class -/
noncomputable def Gw (I : pm_I) (t : Int → Int) : Int := pp (fW I t) 8
noncomputable def Gs (I : pm_I) (t : Int → Int) : Int := pp (fS I t) 8
noncomputable def Gc (I : pm_I) (v c : Int) (t : Int → Int) : Int := (if I 8 (wtt I t v) = I 8 c then 1 else 0) * Gw I t
/-- the sum over all fillings -/
abbrev SA (I : pm_I) (G : (Int → Int) → Int) : Int := SM G (I 4 0).toNat (inT (I 11) (I 12)) (I 10 1).toNat 0 (fun _ => 0)
section CSM
variable {X : pm_XT} {I : pm_I}
theorem wtt_r (hR : Rl I) {w : Int} (hw : 0 ≤ w ∧ w < I 3 3) {t : Int → Int} (ht : ∀ k, 0 ≤ k → k < I 10 1 → 0 ≤ t k ∧ t k < I 4 0) : 0 ≤ wtt I t w ∧ wtt I t w < I 4 0 := by
  have hG := hR.1
  have q4 := (hR.2.2.2.1.2 w hw.1 hw.2).2.2.2.1
  exact wt_r (n := I 4 0) hG.n.1 (fun x y a b c d => hG.pr ⟨a, b⟩ ⟨c, d⟩) (fun x a b => hG.bk ⟨a, b⟩) (fun s hs => by
    have z := (q4 s (by omega) (by omega)).1
    rw [z.1]
    exact ht _ z.2.1 z.2.2)
theorem fp_pp (hR : Rl I) {K : pm_I} {q : Int → Prop} {F : Int → Int → Int} (h : Lkd I K q F) (hq : ∀ w, 0 ≤ w → w < 8 → q w → w < I 3 3) {t : Int → Int} (ht : ∀ k, 0 ≤ k → k < I 10 1 → 0 ≤ t k ∧ t k < I 4 0) : ∀ {k : Nat}, k ≤ 8 → fp K (fun _ => true) t k = pp (fun w => @ite _ (q w) (Classical.propDecidable _) (F w (wtt I t w)) 1) k
  | 0, _ => rfl
  | k + 1, hk => by
    have f := h.1
    have e : wtt K t k = wtt I t k := by
      unfold wtt gP
      rw [f 6 (by decide), f 7 (by decide), f 84 (by decide), f (wk k + 1) (by simp only [lkR, List.mem_cons, List.not_mem_nil, or_false]; unfold wk; omega), f (wk k + 2) (by simp only [lkR, List.mem_cons, List.not_mem_nil, or_false]; unfold wk; omega)]
    show fp K (fun _ => true) t k * (bif decide (K 63 k = 0) then 1 else bif true then K (65 + k) (wtt K t k) else 1) = pp _ k * @ite _ (q k) (Classical.propDecidable _) (F k (wtt I t k)) 1
    rw [fp_pp hR h hq ht (k := k) (by omega), e]
    have hk' := h.2 k (by omega) (by omega)
    congr 1
    by_cases z : q k
    · have r := wtt_r hR ⟨by omega, hq k (by omega) (by omega) z⟩ ht
      have v := (hk'.2 _ r.1 r.2).1 z
      rw [show ((k : Int)).toNat = k by omega] at v
      rw [if_pos z, decide_eq_false (hk'.1.mpr z)]
      exact v
    · have : K 63 k = 0 := by
        rcases Classical.em (K 63 k = 0) with y | y
        · exact y
        · exact absurd (hk'.1.mp y) z
      rw [if_neg z, decide_eq_true this]
      rfl
theorem T_looked (hR : Rl I) {K : pm_I} {q : Int → Prop} {F : Int → Int → Int} (h : Lkd I K q F) (hq : ∀ w, 0 ≤ w → w < 8 → q w → w < I 3 3 ∧ cld I w) (hF : ∀ w a, 0 ≤ w → w < 8 → q w → 0 ≤ a → a < I 4 0 → 0 ≤ F w a ∧ F w a ≤ 9) {G' : (Int → Int) → Int} (hG' : ∀ t : Int → Int, (∀ k, 0 ≤ k → k < I 10 1 → 0 ≤ t k ∧ t k < I 4 0) → pp (fun w => @ite _ (q w) (Classical.propDecidable _) (F w (wtt I t w)) 1) 8 = G' t) :
    ∃ J, f_T_sumLooked X K = some (SA I G', J) ∧ fr scr I J := by
  have hn := hR.1.n
  have l := hR.2.1.2.1
  have f := h.1
  have RK := h.rl hR
  have LKK : LK K := by
    refine ⟨fun w w0 w1 hl => ?_, fun w a w0 w1 a0 a1 => ?_⟩
    · have z := hq w w0 w1 ((h.2 w w0 w1).1.mp hl)
      rw [f 3 (by decide), f 84 (by decide)]
      exact ⟨z.1, z.2.1⟩
    · rw [f 4 (by decide)] at a1
      have r := (h.2 w w0 w1).2 a a0 a1
      rcases Classical.em (q w) with z | z
      · rw [r.1 z]; exact hF w a w0 w1 z a0 a1
      · rw [r.2 z]; omega
  obtain ⟨J, j1, j2⟩ := T_sumLooked (X := X) RK LKK
  refine ⟨J, ?_, (f.mono (by decide)).tr (j2.mono (by decide))⟩
  rw [j1, f 4 (by decide), f 10 (by decide), f 11 (by decide), f 12 (by decide)]
  have e := SM_gg (G := Gf K) (G' := G') (n := (I 4 0).toNat) (tr := inT (I 11) (I 12)) (by omega) (d := (I 10 1).toNat) (j := 0) (t := fun _ => 0) (fun t ht => by
    have ht' : ∀ k, 0 ≤ k → k < I 10 1 → 0 ≤ t k ∧ t k < I 4 0 := fun k k0 k1 => by have := ht k k0 (by omega); omega
    rw [← hG' t ht']
    exact fp_pp hR h (fun w a b c => (hq w a b c).1) ht' (Nat.le_refl 8)) (fun k k0 k1 => by omega)
  rw [e]
theorem T_sumOfWeights (hR : Rl I) : ∃ J, f_T_sumOfWeights X I = some (SA I (Gw I), J) ∧ fr scr I J := by
  have hV := hR.2.2.2.2.2
  obtain ⟨J, j1, j2⟩ := U_clear (X := X) (I := I) hR.1.n.2 (fun _ a => I 9 a)
  obtain ⟨K, k1, k2⟩ := T_lookForWeights (X := X) hR j2
  obtain ⟨L, l1, l2⟩ := T_looked (X := X) hR k2 (fun w _ _ y => ⟨y.1, y.2.2⟩) (fun w a _ _ _ a0 a1 => (hV a a0 a1).2) (G' := Gw I) (fun t _ => rfl)
  refine ⟨L, ?_, l2⟩
  rw [e_T_sumOfWeights, j1]
  simp only [Option.bind_some]
  rw [k1]
  simp only [Option.bind_some]
  rw [l1]
  rfl
theorem T_flat_sum (hR : Rl I) : ∃ J K, f_U_clear X I = some (0, J) ∧ f_T_flat_20 X 0 J = some (SA I (Gs I), K) ∧ fr scr I K := by
  obtain ⟨J, j1, j2⟩ := U_clear (X := X) (I := I) hR.1.n.2 (fun _ a => if a = 0 then 1 else 0)
  obtain ⟨K, k1, k2⟩ := T_flat_20 (X := X) hR j2
  obtain ⟨L, l1, l2⟩ := T_looked (X := X) hR k2 (fun w _ _ y => ⟨y.1, y.2.2⟩) (fun w a _ _ _ a0 a1 => by
    show 0 ≤ (if a = 0 then (1 : Int) else 0) ∧ (if a = 0 then (1 : Int) else 0) ≤ 9
    split <;> omega) (G' := Gs I) (fun t _ => rfl)
  refine ⟨J, L, j1, ?_, l2⟩
  rw [k1, l1]
  rfl
theorem T_sumHeld (hR : Rl I) {v c : Int} (hv : 0 ≤ v ∧ v < I 3 3) (hcl : cld I v) (hc : 0 ≤ c ∧ c < I 4 0) : ∃ J, f_T_sumHeld X v c I = some (SA I (Gc I v c), J) ∧ fr scr I J := by
  have hV := hR.2.2.2.2.2
  have hn := hR.1.n
  have wb := hR.2.2.2.1.1
  have v8 : 0 ≤ v ∧ v < 8 := by omega
  obtain ⟨J, j1, j2⟩ := U_clear (X := X) (I := I) hn.2 (fun _ a => I 9 a)
  obtain ⟨K, k1, k2⟩ := T_lookForWeights (X := X) hR j2
  have e4 : K 4 = I 4 := k2.1 4 (by decide)
  have e8 : K 8 = I 8 := k2.1 8 (by decide)
  obtain ⟨M, m1, m2, m3, m4⟩ := U_lookForClass (X := X) (I := K) v8 (by rw [e4]; exact hn) (c := c) (by omega)
  rw [e4, e8] at m4
  have hM := k2.add (F' := fun u a => if u = v then (if I 8 a = I 8 c then 1 else 0) * @ite _ (wgh I v) (Classical.propDecidable _) (I 9 a) 1 else I 9 a) v8 m2 m3 (fun a a0 a1 => by
    rw [m4 a a0 a1, if_pos rfl]
    have r := (k2.2 v v8.1 v8.2).2 a a0 a1
    by_cases z : wgh I v
    · rw [if_pos z, r.1 ⟨hv.2, z⟩]
      by_cases y : I 8 a = I 8 c
      · rw [if_pos y, if_pos y, Int.one_mul]
      · rw [if_neg y, if_neg y, Int.zero_mul]
    · rw [if_neg z, r.2 (fun y => z y.2)]
      by_cases y : I 8 a = I 8 c
      · rw [if_pos y]; rfl
      · rw [if_neg y]; rfl) (fun u a hu => by
    show (if u = v then _ else _) = _
    rw [if_neg hu])
  obtain ⟨L, l1, l2⟩ := T_looked (X := X) hR hM (fun w _ _ y => by
    rcases y with y | y
    · exact ⟨y.1, y.2.2⟩
    · rw [y]; exact ⟨hv.2, hcl⟩) (fun w a _ _ _ a0 a1 => by
    have r := (hV a a0 a1).2
    show 0 ≤ (if w = v then (if I 8 a = I 8 c then 1 else 0) * @ite _ (wgh I v) (Classical.propDecidable _) (I 9 a) 1 else I 9 a) ∧ (if w = v then (if I 8 a = I 8 c then 1 else 0) * @ite _ (wgh I v) (Classical.propDecidable _) (I 9 a) 1 else I 9 a) ≤ 9
    by_cases y : w = v
    · rw [if_pos y]
      have : 0 ≤ @ite _ (wgh I v) (Classical.propDecidable _) (I 9 a) 1 ∧ @ite _ (wgh I v) (Classical.propDecidable _) (I 9 a) 1 ≤ 9 := by
        by_cases z : wgh I v
        · rw [if_pos z]; exact r
        · rw [if_neg z]; omega
      by_cases x : I 8 a = I 8 c
      · rw [if_pos x, Int.one_mul]; exact this
      · rw [if_neg x, Int.zero_mul]; omega
    · rw [if_neg y]; exact r) (G' := Gc I v c) (fun t _ => by
    have h1 : ∀ u, u ≠ v → (fun w => @ite _ ((w < I 3 3 ∧ wgh I w) ∨ w = v) (Classical.propDecidable _) ((fun u a => if u = v then (if I 8 a = I 8 c then 1 else 0) * @ite _ (wgh I v) (Classical.propDecidable _) (I 9 a) 1 else I 9 a) w (wtt I t w)) 1) u = fW I t u := fun u hu => by
      show @ite _ ((u < I 3 3 ∧ wgh I u) ∨ u = v) (Classical.propDecidable _) (if u = v then _ else I 9 (wtt I t u)) 1 = fW I t u
      unfold fW
      rw [if_neg hu]
      by_cases z : u < I 3 3 ∧ wgh I u
      · rw [if_pos z, if_pos (Or.inl z)]
      · rw [if_neg z, if_neg (fun y => z (y.resolve_right hu))]
    have h2 : (fun w => @ite _ ((w < I 3 3 ∧ wgh I w) ∨ w = v) (Classical.propDecidable _) ((fun u a => if u = v then (if I 8 a = I 8 c then 1 else 0) * @ite _ (wgh I v) (Classical.propDecidable _) (I 9 a) 1 else I 9 a) w (wtt I t w)) 1) v = (if I 8 (wtt I t v) = I 8 c then 1 else 0) * fW I t v := by
      show @ite _ ((v < I 3 3 ∧ wgh I v) ∨ v = v) (Classical.propDecidable _) (if v = v then (if I 8 (wtt I t v) = I 8 c then 1 else 0) * @ite _ (wgh I v) (Classical.propDecidable _) (I 9 (wtt I t v)) 1 else I 9 (wtt I t v)) 1 = (if I 8 (wtt I t v) = I 8 c then 1 else 0) * fW I t v
      rw [if_pos (Or.inr rfl), if_pos rfl]
      unfold fW
      congr 1
      by_cases z : wgh I v
      · rw [if_pos z, if_pos ⟨hv.2, z⟩]
      · rw [if_neg z, if_neg (fun y => z y.2)]
    have h3 := pp_one h1 h2 (k := 8) v8.1
    rw [if_pos (by omega)] at h3
    exact h3)
  refine ⟨L, ?_, l2⟩
  rw [e_T_sumHeld, j1]
  simp only [Option.bind_some]
  rw [k1]
  simp only [Option.bind_some]
  rw [m1]
  simp only [Option.bind_some]
  rw [l1]
  rfl
/-- how many fillings: too many? -/
theorem pw_b (hn : 1 ≤ I 4 0 ∧ I 4 0 ≤ 8) {k : Nat} (hk : k ≤ 10) : 1 ≤ (I 4 0) ^ k ∧ (I 4 0) ^ k ≤ 1073741824 := by
  have e : (((I 4 0).toNat ^ k : Nat) : Int) = (I 4 0) ^ k := by
    rw [Int.natCast_pow, show (((I 4 0).toNat : Nat) : Int) = I 4 0 by omega]
  have a : (I 4 0).toNat ^ k ≤ 8 ^ 10 := Nat.le_trans (Nat.pow_le_pow_left (by omega) k) (Nat.pow_le_pow_right (by omega) hk)
  have b : 1 ≤ (I 4 0).toNat ^ k := Nat.pow_pos (by omega)
  rw [← e]
  omega
theorem T_isSpent (hR : Rl I) : f_T_isSpent X I = some (if 40000 < (I 4 0) ^ (I 10 1 - I 10 2).toNat then 1 else 0, I) := by
  have hn := hR.1.n
  have hB := hR.2.1
  have l := hB.2.1
  have tr : 0 ≤ I 10 2 ∧ I 10 2 ≤ I 10 1 := by
    have := cn_r (inT (I 11) (I 12)) (I 10 1).toNat
    rw [hB.2.2.2.2.2]
    omega
  obtain ⟨x, g1, g2, g3⟩ := pl_loop (fun i (x : Int) => f_T_isSpent_10 X x i I) (I 10 1) (fun i x => I 10 2 ≤ i ∧ x = (I 4 0) ^ (i - I 10 2).toNat) (fun i x hi hp => by
    obtain ⟨p0, p1⟩ := hp
    have b := pw_b (I := I) hn (k := (i + 1 - I 10 2).toNat) (by omega)
    show ∃ s', f_T_isSpent_10 X x i I = f_T_isSpent_10 X s' (i + 1) I ∧ _
    rw [e_T_isSpent_10, if_pos hi, if_pos (by omega)]
    refine ⟨_, rfl, by omega, ?_⟩
    have e : (I 4 0) ^ (i + 1 - I 10 2).toNat = (I 4 0) ^ (i - I 10 2).toNat * I 4 0 := by
      rw [show (i + 1 - I 10 2).toNat = (i - I 10 2).toNat + 1 by omega, Int.pow_succ]
    rw [p1, ← e, w64_id (by omega)]) (i := I 10 2) (s := 1) tr.2 ⟨Int.le_refl _, by rw [show (I 10 2 - I 10 2).toNat = 0 by omega]; exact (Int.pow_zero _).symm⟩
  rw [e_T_isSpent]
  refine g1.trans ?_
  show f_T_isSpent_10 X x (I 10 1) I = _
  rw [e_T_isSpent_10, if_neg (by omega), g3]
  by_cases z : 40000 < (I 4 0) ^ (I 10 1 - I 10 2).toNat
  · rw [if_pos z, if_pos z]
  · rw [if_neg z, if_neg z]
    split <;> rfl
end CSM
