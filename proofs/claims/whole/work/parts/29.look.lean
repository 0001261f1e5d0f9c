/-! THE CLASS'S SUM: walks looked at, factors, lines marked, the sum from a line on -/
theorem wt_ct {P : Int → Int → Int} {bk tn tn' ln bf : Int → Int} : ∀ {k : Nat}, (∀ s : Nat, s < k → tn (ln s) = tn' (ln s)) → wt P bk tn ln bf k = wt P bk tn' ln bf k
  | 0, _ => rfl
  | k + 1, h => by
    show P _ (if _ then _ else _) = P _ (if _ then _ else _)
    rw [wt_ct (fun s hs => h s (by omega)), h k (by omega)]
/-- the turn that goes round walk w of the filling t -/
def wtt (I : pm_I) (t : Int → Int) (w : Int) : Int := wt (gP I) (I 7) t (I (wk w + 1)) (I (wk w + 2)) (I 84 w).toNat
/-- the product of the factors of the walks that are looked at and of which P -/
def fp (I : pm_I) (P : Int → Bool) (t : Int → Int) : Nat → Int
  | 0 => 1
  | k + 1 => fp I P t k * (bif decide (I 63 k = 0) then 1 else bif P k then I (65 + k) (wtt I t k) else 1)
/-- what is looked at -/
def LK (I : pm_I) : Prop := (∀ w, 0 ≤ w → w < 8 → I 63 w ≠ 0 → w < I 3 3 ∧ 0 < I 84 w) ∧ ∀ w a : Int, 0 ≤ w → w < 8 → 0 ≤ a → a < I 4 0 → 0 ≤ I (65 + w.toNat) a ∧ I (65 + w.toNat) a ≤ 9
section CLS
variable {X : pm_XT} {I : pm_I}
theorem W_turnWithS (hG : RlG I) {w : Int} (w8 : 0 ≤ w ∧ w < 8) (h : RlW1 I w) (hl : I 10 1 ≤ 10) {r : Nat} (hr : pm_kd r = 8 ∧ pm_ln X.2 r = 10) (ht : ∀ s, 0 ≤ s → s < I 84 w → 0 ≤ I r (I (wk w + 1) s) ∧ I r (I (wk w + 1) s) < I 4 0) : f_W_turnWith X (wk w) r I = some (wtn I r w, I) ∧ 0 ≤ wtn I r w ∧ wtn I r w < I 4 0 := by
  obtain ⟨q1, q2, q3, q4, q5⟩ := h
  have hn := hG.n
  obtain ⟨c1, c2, c3, c4, c5, c6⟩ := c_wk w8
  have cl := c_wkl X.2 w8
  have hrg : ∀ k : Nat, (k : Int) ≤ I 84 w → 0 ≤ wt (gP I) (I 7) (I r) (I (wk w + 1)) (I (wk w + 2)) k ∧ wt (gP I) (I 7) (I r) (I (wk w + 1)) (I (wk w + 2)) k < I 4 0 := fun k hk => wt_r (n := I 4 0) hn.1 (fun x y a b c d => hG.pr ⟨a, b⟩ ⟨c, d⟩) (fun x a b => hG.bk ⟨a, b⟩) (fun s hs => ht s (by omega) (by omega))
  obtain ⟨v, g1, g2, g3⟩ := pl_loop (fun i (v : Int) => f_W_turnWith_5 X (wk w) r v i I) (I 84 w) (fun i v => 0 ≤ i ∧ v = wt (gP I) (I 7) (I r) (I (wk w + 1)) (I (wk w + 2)) i.toNat) (fun i v hi hp => by
    obtain ⟨p0, p1⟩ := hp
    have rv := hrg i.toNat (by omega)
    rw [← p1] at rv
    have z := (q4 i p0 hi).1
    have zb := (q4 i p0 hi).2
    have tr := ht i p0 hi
    have eN : ((i.toNat : Nat) : Int) = i := by omega
    refine ⟨wt (gP I) (I 7) (I r) (I (wk w + 1)) (I (wk w + 2)) (i + 1).toNat, ?_, by omega, rfl⟩
    rw [show (i + 1).toNat = i.toNat + 1 by omega]
    show f_W_turnWith_5 X (wk w) r v i I = f_W_turnWith_5 X (wk w) r (gP I (wt (gP I) (I 7) (I r) (I (wk w + 1)) (I (wk w + 2)) i.toNat) (if I (wk w + 2) ((i.toNat : Nat) : Int) = 0 then I r (I (wk w + 1) ((i.toNat : Nat) : Int)) else I 7 (I r (I (wk w + 1) ((i.toNat : Nat) : Int))))) (i + 1) I
    rw [eN, ← p1, e_W_turnWith_5, c2, c3, c4, c5, c6, cl.1, cl.2, hr.1, hr.2, q2.1]
    simp only [show Nat.beq 5 5 = true from rfl, show Nat.beq 8 8 = true from rfl, show Nat.beq 9 9 = true from rfl, cond_true]
    rw [if_pos hi, if_pos (by omega), if_pos (by omega), if_pos (by omega)]
    by_cases y : I (wk w + 2) i = 0
    · rw [if_pos y, if_pos y, G_product (by omega) (by omega)]
      simp only [Option.bind_some]
      rw [if_pos (by omega)]
    · have bkr := hG.bk tr
      rw [if_neg y, if_neg y, if_pos (by omega), G_product (by omega) (by omega)]
      simp only [Option.bind_some]
      rw [if_pos (by omega)]) (i := 0) (s := 0) q2.2.1 ⟨Int.le_refl 0, rfl⟩
  refine ⟨?_, hrg (I 84 w).toNat (by omega)⟩
  rw [e_W_turnWith]
  refine g1.trans ?_
  show f_W_turnWith_5 X (wk w) r v (I 84 w) I = _
  rw [e_W_turnWith_5, c2, q2.1]
  simp only [show Nat.beq 5 5 = true from rfl, cond_true]
  rw [if_neg (by omega), g3]
  rfl
/-- the lines of a walk that is looked at -/
theorem LK.ln (h : LK I) (hW : RlW I) {w : Int} (w8 : 0 ≤ w ∧ w < 8) (hl : I 63 w ≠ 0) {s : Int} (s0 : 0 ≤ s) (s1 : s < I 84 w) : 0 ≤ I (wk w + 1) s ∧ I (wk w + 1) s < I 10 1 := by
  have q := ((hW.2 w w8.1 (h.1 w w8.1 w8.2 hl).1).2.2.2.1 s s0 s1).1
  rw [q.1]
  exact q.2
theorem fp_ct {P Q : Int → Bool} {t t' : Int → Int} : ∀ {k : Nat}, (∀ w : Nat, w < k → I 63 w ≠ 0 → P w = Q w) → (∀ w : Nat, w < k → I 63 w ≠ 0 → Q w = true → ∀ s, 0 ≤ s → s < I 84 w → t (I (wk w + 1) s) = t' (I (wk w + 1) s)) → fp I P t k = fp I Q t' k
  | 0, _, _ => rfl
  | k + 1, h1, h2 => by
    show fp I P t k * _ = fp I Q t' k * _
    rw [fp_ct (fun w hw => h1 w (by omega)) (fun w hw => h2 w (by omega))]
    congr 1
    by_cases z : I 63 k = 0
    · simp [z]
    · have e := h1 k (by omega) z
      simp only [z, decide_false, cond_false, e]
      cases hq : Q k with
      | false => rfl
      | true =>
        simp only [cond_true]
        have : wtt I t k = wtt I t' k := wt_ct (fun s hs => h2 k (by omega) z hq s (by omega) (by omega))
        rw [this]
theorem fp_mul {P Q : Int → Bool} {t : Int → Int} : ∀ {k : Nat}, (∀ w : Nat, w < k → ¬ (P w = true ∧ Q w = true)) → fp I P t k * fp I Q t k = fp I (fun w => P w || Q w) t k
  | 0, _ => rfl
  | k + 1, h => by
    have ih := fp_mul (P := P) (Q := Q) (t := t) (k := k) (fun w hw => h w (by omega))
    have hk := h k (by omega)
    show fp I P t k * _ * (fp I Q t k * _) = fp I (fun w => P w || Q w) t k * _
    rw [← ih]
    by_cases z : I 63 k = 0
    · simp [z]
    · simp only [z, decide_false, cond_false]
      cases hp : P k with
      | false => cases hq : Q k <;> simp [Int.mul_assoc]
      | true =>
        cases hq : Q k with
        | false => simp [Int.mul_assoc, Int.mul_comm, Int.mul_left_comm]
        | true => exact absurd ⟨hp, hq⟩ hk
theorem fp_r {P : Int → Bool} {t : Int → Int} (h : LK I) (hG : RlG I) (hW : RlW I) (ht : ∀ w, 0 ≤ w → w < 8 → I 63 w ≠ 0 → P w = true → ∀ s, 0 ≤ s → s < I 84 w → 0 ≤ t (I (wk w + 1) s) ∧ t (I (wk w + 1) s) < I 4 0) : ∀ {k : Nat}, k ≤ 8 → 0 ≤ fp I P t k ∧ fp I P t k ≤ 9 ^ k
  | 0, _ => ⟨by show (0 : Int) ≤ 1; omega, by show (1 : Int) ≤ 1; omega⟩
  | k + 1, hk => by
    have ih := fp_r h hG hW ht (k := k) (by omega)
    show 0 ≤ fp I P t k * _ ∧ fp I P t k * _ ≤ 9 ^ k * 9
    refine mul_b ih ?_
    by_cases z : I 63 k = 0
    · simp [z]
    · simp only [z, decide_false, cond_false]
      cases hp : P k with
      | false => simp
      | true =>
        simp only [cond_true]
        have q : 0 ≤ wtt I t k ∧ wtt I t k < I 4 0 := wt_r (n := I 4 0) hG.n.1 (fun x y a b c d => hG.pr ⟨a, b⟩ ⟨c, d⟩) (fun x a b => hG.bk ⟨a, b⟩) (fun s hs => ht k (by omega) (by omega) z hp s (by omega) (by omega))
        exact h.2 k _ (by omega) (by omega) q.1 q.2
theorem fp_b {P : Int → Bool} {t : Int → Int} (h : LK I) (hG : RlG I) (hW : RlW I) (ht : ∀ w, 0 ≤ w → w < 8 → I 63 w ≠ 0 → P w = true → ∀ s, 0 ≤ s → s < I 84 w → 0 ≤ t (I (wk w + 1) s) ∧ t (I (wk w + 1) s) < I 4 0) {k : Nat} (hk : k ≤ 8) : 0 ≤ fp I P t k ∧ fp I P t k ≤ 43046721 := by
  have q := fp_r h hG hW ht hk
  refine ⟨q.1, Int.le_trans q.2 ?_⟩
  have : k = 0 ∨ k = 1 ∨ k = 2 ∨ k = 3 ∨ k = 4 ∨ k = 5 ∨ k = 6 ∨ k = 7 ∨ k = 8 := by omega
  rcases this with z | z | z | z | z | z | z | z | z <;> subst z <;> decide
/-- the factor of the walks whose last line this is -/
theorem U_factorBehind (h : LK I) (hR : Rl I) {v : Int} (ht : ∀ w, 0 ≤ w → w < 8 → I 63 w ≠ 0 → I 73 w = v → ∀ s, 0 ≤ s → s < I 84 w → 0 ≤ I 76 (I (wk w + 1) s) ∧ I 76 (I (wk w + 1) s) < I 4 0) : f_U_factorBehind X v I = some (fp I (fun w => decide (I 73 w = v)) (I 76) 8, I) := by
  obtain ⟨hG, hB, hT, hW, hS, hV⟩ := id hR
  have hn := hG.n
  have ht' : ∀ w, 0 ≤ w → w < 8 → I 63 w ≠ 0 → decide (I 73 w = v) = true → ∀ s, 0 ≤ s → s < I 84 w → 0 ≤ I 76 (I (wk w + 1) s) ∧ I 76 (I (wk w + 1) s) < I 4 0 := fun w a b c d => ht w a b c (of_decide_eq_true d)
  obtain ⟨x, g1, g2, g3⟩ := pl_loop (fun i (x : Int) => f_U_factorBehind_6 X v x i I) 8 (fun i x => 0 ≤ i ∧ x = fp I (fun w => decide (I 73 w = v)) (I 76) i.toNat) (fun i x hi hp => by
    obtain ⟨p0, p1⟩ := hp
    have w8 : 0 ≤ i ∧ i < 8 := ⟨p0, hi⟩
    have b := fp_b h hG hW ht' (k := (i + 1).toNat) (by omega)
    have e : fp I (fun w => decide (I 73 w = v)) (I 76) (i + 1).toNat = fp I (fun w => decide (I 73 w = v)) (I 76) i.toNat * (bif decide (I 63 i = 0) then 1 else bif decide (I 73 i = v) then I (65 + i.toNat) (wtt I (I 76) i) else 1) := by
      rw [show (i + 1).toNat = i.toNat + 1 by omega]
      show fp I (fun w => decide (I 73 w = v)) (I 76) i.toNat * (bif decide (I 63 ((i.toNat : Nat) : Int) = 0) then 1 else bif decide (I 73 ((i.toNat : Nat) : Int) = v) then I (65 + i.toNat) (wtt I (I 76) ((i.toNat : Nat) : Int)) else 1) = _
      rw [show ((i.toNat : Nat) : Int) = i by omega]
    show ∃ s', f_U_factorBehind_6 X v x i I = f_U_factorBehind_6 X v s' (i + 1) I ∧ _
    rw [e_U_factorBehind_6, if_pos hi, if_pos w8]
    by_cases z : I 63 i = 0
    · rw [if_pos z, if_pos (by omega)]
      simp only [z, decide_true, cond_true, Int.mul_one] at e
      exact ⟨_, rfl, by omega, by rw [p1, e]⟩
    · rw [if_neg z, if_pos w8]
      by_cases y : I 73 i = v
      · obtain ⟨c1, c2, -⟩ := c_wk w8
        obtain ⟨d1, d2⟩ := c_fa w8
        have d3 := c_fal X.2 w8
        have q := h.1 i p0 hi z
        obtain ⟨t1, t2⟩ := W_turnWithS (X := X) hG w8 (hW.2 i p0 q.1) hB.2.1.2.1 (r := 76) ⟨rfl, rfl⟩ (ht i p0 hi z y)
        rw [if_pos y, if_pos w8, if_pos w8, c1, c2, d1, d2, d3, t1]
        simp only [show Nat.beq 5 5 = true from rfl, show Nat.beq 8 8 = true from rfl, cond_true, Option.bind_some]
        rw [if_pos (by omega), if_pos (by omega)]
        simp only [z, y, decide_true, decide_false, cond_true, cond_false] at e
        refine ⟨_, rfl, by omega, ?_⟩
        rw [p1]
        show pm_w64 (_ * I (65 + i.toNat) (wtt I (I 76) i)) = _
        rw [← e, w64_id (by omega)]
      · rw [if_neg y, if_pos (by omega)]
        simp only [z, y, decide_false, cond_false, Int.mul_one] at e
        exact ⟨_, rfl, by omega, by rw [p1, e]⟩) (i := 0) (s := 1) (by omega) ⟨Int.le_refl 0, rfl⟩
  rw [e_U_factorBehind]
  refine g1.trans ?_
  show f_U_factorBehind_6 X v x 8 I = _
  rw [e_U_factorBehind_6, if_neg (by omega), g3]
  rfl
end CLS
