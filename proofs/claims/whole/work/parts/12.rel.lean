/-! THE RELATION between the class's cells and the reference's -/
/-- which part a point is of, once j lines are there: the least point that it hangs together with -/
def pt (f t : Int → Int) : Nat → Int → Int
  | 0, p => p
  | j + 1, p => if pt f t j p = pt f t j (f j) ∨ pt f t j p = pt f t j (t j) then min (pt f t j (f j)) (pt f t j (t j)) else pt f t j p
theorem pt_congr {f t f' t' : Int → Int} : ∀ {j : Nat}, (∀ i : Nat, i < j → f i = f' i ∧ t i = t' i) → ∀ p, pt f t j p = pt f' t' j p
  | 0, _, _ => rfl
  | j + 1, h, p => by
    have ih := pt_congr (f := f) (t := t) (f' := f') (t' := t') (j := j) (fun i hi => h i (by omega))
    have h1 := h j (by omega)
    show (if _ then _ else _) = (if _ then _ else _)
    rw [ih p, ih (f j), ih (t j), h1.1, h1.2]
theorem pt_r {f t : Int → Int} {n : Int} : ∀ {j : Nat}, (∀ i : Nat, i < j → (0 ≤ f i ∧ f i < n) ∧ 0 ≤ t i ∧ t i < n) → ∀ p, 0 ≤ p → (0 ≤ pt f t j p ∧ pt f t j p ≤ p) ∧ (n ≤ p → pt f t j p = p)
  | 0, _, p, hp => ⟨⟨hp, Int.le_refl _⟩, fun _ => rfl⟩
  | j + 1, h, p, hp => by
    have ih := pt_r (f := f) (t := t) (n := n) (j := j) (fun i hi => h i (by omega))
    have h1 := h j (by omega)
    have a1 := ih p hp
    have a2 := ih (f j) h1.1.1
    have a3 := ih (t j) h1.2.1
    unfold pt
    by_cases q : pt f t j p = pt f t j (f j) ∨ pt f t j p = pt f t j (t j)
    · rw [if_pos q]
      refine ⟨by omega, fun hn => ?_⟩
      have := a1.2 hn
      omega
    · rw [if_neg q]
      exact a1
def inT (f t : Int → Int) (k : Int) : Bool := decide (¬ pt f t k.toNat (f k) = pt f t k.toNat (t k))
abbrev wk (w : Int) : Nat := 19 + 3 * w.toNat
abbrev sh (k : Int) : Nat := 54 + 2 * k.toNat
/-- the row of the i-th act that is kept -/
abbrev arow (I : pm_I) (i : Int) : Nat := 45 + ((I 43 1 - I 43 0 + i) % 8).toNat
def RlB (I : pm_I) : Prop := (0 ≤ I 10 0 ∧ I 10 0 ≤ 6 ∧ I 77 3 = I 10 0) ∧ (0 ≤ I 10 1 ∧ I 10 1 ≤ 10 ∧ I 77 4 = I 10 1) ∧
  (∀ k, 0 ≤ k → k < I 10 1 → (I 80 k = I 11 k ∧ I 81 k = I 12 k) ∧ (0 ≤ I 11 k ∧ I 11 k < I 10 0) ∧ 0 ≤ I 12 k ∧ I 12 k < I 10 0) ∧
  (∀ p, 0 ≤ p → p < I 10 0 → I 15 p = pt (I 11) (I 12) (I 10 1).toNat p) ∧
  (∀ k, 0 ≤ k → k < I 10 1 → I 14 k = bif inT (I 11) (I 12) k then 1 else 0) ∧ I 10 2 = cn (inT (I 11) (I 12)) (I 10 1).toNat
def RlT (I : pm_I) : Prop := (∀ k, 0 ≤ k → k < 10 → I 82 k = I 13 k ∧ (0 ≤ I 13 k ∧ I 13 k < I 4 0) ∧ (I 10 1 ≤ k → I 13 k = 0)) ∧ ((0 ≤ I 43 0 ∧ I 43 0 ≤ 8) ∧ I 77 14 = I 43 0 ∧ 0 ≤ I 43 1 ∧ I 43 1 < 8) ∧
  ∀ i k, 0 ≤ i → i < I 43 0 → 0 ≤ k → k < 10 → I (arow I i) k = I 88 (10 * i + k) ∧ (0 ≤ I 88 (10 * i + k) ∧ I 88 (10 * i + k) < I 4 0) ∧ (I 10 1 ≤ k → I 88 (10 * i + k) = 0)
/-- where a walk of the reference ends -/
def endv (I : pm_I) (w : Int) : Int := if I 84 w = 0 then I 83 w else if I 86 (6 * w + I 84 w - 1) = 0 then I 12 (I 85 (6 * w + I 84 w - 1)) else I 11 (I 85 (6 * w + I 84 w - 1))
def RlW1 (I : pm_I) (w : Int) : Prop := (I (wk w) 0 = I 83 w ∧ 0 ≤ I 83 w ∧ I 83 w < I 10 0) ∧ (I (wk w) 2 = I 84 w ∧ 0 ≤ I 84 w ∧ I 84 w ≤ 6) ∧ (I (wk w) 3 = I 87 w ∧ (I 87 w = 0 ∨ I 87 w = 1)) ∧
  (∀ s, 0 ≤ s → s < I 84 w → (I (wk w + 1) s = I 85 (6 * w + s) ∧ 0 ≤ I 85 (6 * w + s) ∧ I 85 (6 * w + s) < I 10 1) ∧ I (wk w + 2) s = I 86 (6 * w + s) ∧ (I 86 (6 * w + s) = 0 ∨ I 86 (6 * w + s) = 1)) ∧ I (wk w) 1 = endv I w
def RlW (I : pm_I) : Prop := (0 ≤ I 3 3 ∧ I 3 3 ≤ 8 ∧ I 77 8 = I 3 3) ∧ ∀ w, 0 ≤ w → w < I 3 3 → RlW1 I w
def RlS (I : pm_I) : Prop := ∀ k, 0 ≤ k → k < 4 → ((I (sh k) 0 = 0 ∧ I 89 k = -4) ∨ (I (sh k) 0 = 1 ∧ I 89 k = I (sh k) 2 ∧ 0 ≤ I (sh k) 2 ∧ I (sh k) 2 ≤ 2)) ∧ (I (sh k) 1 = I 90 k ∧ 0 ≤ I 90 k ∧ I 90 k ≤ 64) ∧ ∀ i, 0 ≤ i → i < 64 → I (sh k + 1) i = I 91 (64 * k + i)
def Rl (I : pm_I) : Prop := RlG I ∧ RlB I ∧ RlT I ∧ RlW I ∧ RlS I ∧ RlV I
/-! what a change of other rows leaves -/
theorem RlG.cg {I I' : pm_I} (h : RlG I) (h4 : I' 4 0 = I 4 0) (h6 : I' 6 = I 6) (h7 : I' 7 = I 7) (h8 : I' 8 = I 8) (h77 : I' 77 0 = I 77 0) (h78 : I' 78 = I 78) : RlG I' := by
  unfold RlG gP at h ⊢
  rw [h4, h6, h7, h8, h77, h78]
  exact h
theorem RlV.cg {I I' : pm_I} (h : RlV I) (h4 : I' 4 0 = I 4 0) (h9 : I' 9 = I 9) (h79 : I' 79 = I 79) : RlV I' := by
  unfold RlV at h ⊢
  rw [h4, h9, h79]
  exact h
theorem RlB.cg {I I' : pm_I} (h : RlB I) (a0 : I' 10 0 = I 10 0) (a1 : I' 10 1 = I 10 1) (a2 : I' 10 2 = I 10 2) (h3 : I' 77 3 = I 77 3) (h4 : I' 77 4 = I 77 4) (h11 : I' 11 = I 11) (h12 : I' 12 = I 12) (h14 : I' 14 = I 14) (h15 : I' 15 = I 15) (h80 : I' 80 = I 80) (h81 : I' 81 = I 81) : RlB I' := by
  unfold RlB at h ⊢
  rw [a0, a1, a2, h3, h4, h11, h12, h14, h15, h80, h81]
  exact h
theorem RlT.cg {I I' : pm_I} (h : RlT I) (h4 : I' 4 0 = I 4 0) (h10 : I' 10 1 = I 10 1) (h13 : I' 13 = I 13) (h82 : I' 82 = I 82) (h43 : I' 43 = I 43) (hr : ∀ r, 45 ≤ r → r < 53 → I' r = I r) (h77 : I' 77 14 = I 77 14) (h88 : I' 88 = I 88) : RlT I' := by
  obtain ⟨t1, t2, t3⟩ := h
  refine ⟨fun k k0 k1 => by rw [h82, h13, h4, h10]; exact t1 k k0 k1, by rw [h43, h77]; exact t2, fun i k i0 i1 k0 k1 => ?_⟩
  rw [h43] at i1
  have e : arow I' i = arow I i := by unfold arow; rw [h43]
  rw [e, h88, h4, h10, hr (arow I i) (by unfold arow; omega) (by unfold arow; omega)]
  exact t3 i k i0 i1 k0 k1
theorem endv.cg {I I' : pm_I} {w : Int} (h11 : I' 11 = I 11) (h12 : I' 12 = I 12) (h83 : I' 83 = I 83) (h84 : I' 84 = I 84) (h85 : I' 85 = I 85) (h86 : I' 86 = I 86) : endv I' w = endv I w := by
  unfold endv
  rw [h11, h12, h83, h84, h85, h86]
theorem RlW.cg {I I' : pm_I} (h : RlW I) (h3 : I' 3 3 = I 3 3) (h77 : I' 77 8 = I 77 8) (a0 : I' 10 0 = I 10 0) (a1 : I' 10 1 = I 10 1) (h11 : I' 11 = I 11) (h12 : I' 12 = I 12) (hr : ∀ r, 19 ≤ r → r < 43 → I' r = I r) (h83 : I' 83 = I 83) (h84 : I' 84 = I 84) (h85 : I' 85 = I 85) (h86 : I' 86 = I 86) (h87 : I' 87 = I 87) : RlW I' := by
  obtain ⟨w1, w2⟩ := h
  refine ⟨by rw [h3, h77]; exact w1, fun w w0 w9 => ?_⟩
  rw [h3] at w9
  have q := w2 w w0 w9
  unfold RlW1 at q ⊢
  rw [endv.cg h11 h12 h83 h84 h85 h86, hr (wk w) (by unfold wk; omega) (by unfold wk; omega), hr (wk w + 1) (by unfold wk; omega) (by unfold wk; omega), hr (wk w + 2) (by unfold wk; omega) (by unfold wk; omega), h83, h84, h85, h86, h87, a0, a1]
  exact q
theorem RlS.cg {I I' : pm_I} (h : RlS I) (hr : ∀ r, 54 ≤ r → r < 62 → I' r = I r) (h89 : I' 89 = I 89) (h90 : I' 90 = I 90) (h91 : I' 91 = I 91) : RlS I' := by
  intro k k0 k1
  have q := h k k0 k1
  rw [h89, h90, h91, hr (sh k) (by unfold sh; omega) (by unfold sh; omega), hr (sh k + 1) (by unfold sh; omega) (by unfold sh; omega)]
  exact q
/-- the rows that no part of the relation speaks of -/
def scr : List Nat := [5, 16, 17, 63, 65, 66, 67, 68, 69, 70, 71, 72, 73, 74, 75, 76, 92, 93, 94, 95, 96, 97, 98, 99]
theorem scr_n {r : Nat} (h : (19 ≤ r ∧ r < 43) ∨ (45 ≤ r ∧ r < 53) ∨ (54 ≤ r ∧ r < 62)) : r ∉ scr := by
  intro q
  simp only [scr, List.mem_cons, List.not_mem_nil, or_false] at q
  omega
theorem Rl.scr {I I' : pm_I} (h : Rl I) (hf : fr scr I I') : Rl I' :=
  ⟨h.1.cg (by rw [hf 4 (by decide)]) (hf 6 (by decide)) (hf 7 (by decide)) (hf 8 (by decide)) (by rw [hf 77 (by decide)]) (hf 78 (by decide)),
   h.2.1.cg (by rw [hf 10 (by decide)]) (by rw [hf 10 (by decide)]) (by rw [hf 10 (by decide)]) (by rw [hf 77 (by decide)]) (by rw [hf 77 (by decide)]) (hf 11 (by decide)) (hf 12 (by decide)) (hf 14 (by decide)) (hf 15 (by decide)) (hf 80 (by decide)) (hf 81 (by decide)),
   h.2.2.1.cg (by rw [hf 4 (by decide)]) (by rw [hf 10 (by decide)]) (hf 13 (by decide)) (hf 82 (by decide)) (hf 43 (by decide)) (fun r a b => hf r (scr_n (by omega))) (by rw [hf 77 (by decide)]) (hf 88 (by decide)),
   h.2.2.2.1.cg (by rw [hf 3 (by decide)]) (by rw [hf 77 (by decide)]) (by rw [hf 10 (by decide)]) (by rw [hf 10 (by decide)]) (hf 11 (by decide)) (hf 12 (by decide)) (fun r a b => hf r (scr_n (by omega))) (hf 83 (by decide)) (hf 84 (by decide)) (hf 85 (by decide)) (hf 86 (by decide)) (hf 87 (by decide)),
   h.2.2.2.2.1.cg (fun r a b => hf r (scr_n (by omega))) (hf 89 (by decide)) (hf 90 (by decide)) (hf 91 (by decide)),
   h.2.2.2.2.2.cg (by rw [hf 4 (by decide)]) (hf 9 (by decide)) (hf 79 (by decide))⟩
/-- an answer of both, and the relation again -/
def Ok (F G : pm_I → pm_O) (I : pm_I) : Prop := ∃ r I1 I2, F I = some (r, I1) ∧ G I1 = some (r, I2) ∧ Rl I2
theorem Ok.same {F G : pm_I → pm_O} {I : pm_I} (h : Rl I) (q : ∃ r, F I = some (r, I) ∧ G I = some (r, I)) : Ok F G I := by
  obtain ⟨r, h1, h2⟩ := q
  exact ⟨r, I, I, h1, h2, h⟩
section OPW
variable {X : pm_XT} {I : pm_I}
theorem ok_times (h : Rl I) {a b : Int} : Ok (f_T_times X a b) (f_M_times X a b) I := Ok.same h (o_times h.1)
theorem ok_turn (h : Rl I) {a b : Int} : Ok (f_T_turn X a b) (f_M_turn X a b) I := Ok.same h (o_turn h.1 h.2.2.2.2.2)
theorem ok_about (h : Rl I) {a : Int} : Ok (f_T_about X a) (f_M_about X a) I := Ok.same h (o_about h.1)
/-- worth: of all of a class -/
theorem G_giveWorth (h : RlG I) {a v : Int} (ha : 0 ≤ a ∧ a < I 4 0) : ∃ I', f_G_giveWorth X a v I = some (0, I') ∧ fr [9] I I' ∧ ∀ k, I' 9 k = if (0 ≤ k ∧ k < I 4 0) ∧ I 8 k = I 8 a then v else I 9 k := by
  have hn := h.n
  obtain ⟨J, h1, h2, h3, h4⟩ := pl_loop (fun i (J : pm_I) => f_G_giveWorth_2 X a v i J) (I 4 0) (fun i J => 0 ≤ i ∧ fr [9] I J ∧ ∀ k, J 9 k = if (0 ≤ k ∧ k < i) ∧ I 8 k = I 8 a then v else I 9 k) (fun i J hi hp => by
    obtain ⟨p0, p1, p2⟩ := hp
    have e4 : J 4 = I 4 := p1 4 (by decide)
    have e8 : J 8 = I 8 := p1 8 (by decide)
    show ∃ s', f_G_giveWorth_2 X a v i J = f_G_giveWorth_2 X a v (i + 1) s' ∧ _
    rw [e_G_giveWorth_2, e4, e8, if_pos hi, if_pos (by omega), if_pos (by omega)]
    by_cases q : I 8 i = I 8 a
    · rw [if_pos q, if_pos (by omega), if_pos (by omega)]
      refine ⟨_, rfl, by omega, p1.up (by decide), fun k => ?_⟩
      rw [up_at, p2 k]
      by_cases hk : k = i
      · subst hk
        rw [if_pos rfl, if_pos ⟨by omega, q⟩]
      · rw [if_neg hk]
        by_cases hz : (0 ≤ k ∧ k < i) ∧ I 8 k = I 8 a
        · rw [if_pos hz, if_pos ⟨by omega, hz.2⟩]
        · rw [if_neg hz, if_neg (fun z => hz ⟨by omega, z.2⟩)]
    · rw [if_neg q, if_pos (by omega)]
      refine ⟨_, rfl, by omega, p1, fun k => ?_⟩
      rw [p2 k]
      by_cases hz : (0 ≤ k ∧ k < i) ∧ I 8 k = I 8 a
      · rw [if_pos hz, if_pos ⟨by omega, hz.2⟩]
      · rw [if_neg hz, if_neg (fun z => hz ⟨by
          have : k ≠ i := fun e => q (by rw [← e]; exact z.2)
          omega, z.2⟩)]) (i := 0) (s := I) (by omega) ⟨Int.le_refl 0, fr.rf _ _, fun k => by rw [if_neg (fun z => by omega)]⟩
  refine ⟨J, ?_, h3, h4⟩
  rw [e_G_giveWorth]
  refine h1.trans ?_
  show f_G_giveWorth_2 X a v (I 4 0) J = _
  rw [e_G_giveWorth_2, h3 4 (by decide), if_neg (by omega)]
theorem M_worth_39 (h : RlG I) {a v u : Int} (ha : 0 ≤ a ∧ a < I 4 0) : ∃ I', f_M_worth_39 X v u (I 8 a) 0 I = some (u, I') ∧ fr [79] I I' ∧ ∀ k, I' 79 k = if (0 ≤ k ∧ k < I 4 0) ∧ I 8 k = I 8 a then v else I 79 k := by
  have hn := h.n
  obtain ⟨J, h1, h2, h3, h4⟩ := pl_loop (fun i (J : pm_I) => f_M_worth_39 X v u (I 8 a) i J) (I 4 0) (fun i J => 0 ≤ i ∧ fr [79] I J ∧ ∀ k, J 79 k = if (0 ≤ k ∧ k < i) ∧ I 8 k = I 8 a then v else I 79 k) (fun i J hi hp => by
    obtain ⟨p0, p1, p2⟩ := hp
    have e4 : J 4 = I 4 := p1 4 (by decide)
    have e8 : J 8 = I 8 := p1 8 (by decide)
    have e77 : J 77 = I 77 := p1 77 (by decide)
    have hJ : RlG J := h.cg (by rw [e4]) (p1 6 (by decide)) (p1 7 (by decide)) e8 (by rw [e77]) (p1 78 (by decide))
    show ∃ s', f_M_worth_39 X v u (I 8 a) i J = f_M_worth_39 X v u (I 8 a) (i + 1) s' ∧ _
    rw [e_M_worth_39, e77, h.2.1, if_pos hi, M_classOf hJ (by rw [e4]; exact ⟨p0, hi⟩)]
    simp only [Option.bind_some]
    rw [e8]
    by_cases q : I 8 i = I 8 a
    · rw [if_pos q, if_pos (by omega), if_pos (by omega)]
      refine ⟨_, rfl, by omega, p1.up (by decide), fun k => ?_⟩
      rw [up_at, p2 k]
      by_cases hk : k = i
      · subst hk
        rw [if_pos rfl, if_pos ⟨by omega, q⟩]
      · rw [if_neg hk]
        by_cases hz : (0 ≤ k ∧ k < i) ∧ I 8 k = I 8 a
        · rw [if_pos hz, if_pos ⟨by omega, hz.2⟩]
        · rw [if_neg hz, if_neg (fun z => hz ⟨by omega, z.2⟩)]
    · rw [if_neg q, if_pos (by omega), if_pos (by omega), if_pos (by omega)]
      refine ⟨_, rfl, by omega, p1.up (by decide), fun k => ?_⟩
      rw [up_at, p2 k]
      by_cases hk : k = i
      · subst hk
        rw [if_pos rfl, p2 k, if_neg (fun z => q z.2), if_neg (fun z => q z.2)]
      · rw [if_neg hk]
        by_cases hz : (0 ≤ k ∧ k < i) ∧ I 8 k = I 8 a
        · rw [if_pos hz, if_pos ⟨by omega, hz.2⟩]
        · rw [if_neg hz, if_neg (fun z => hz ⟨by omega, z.2⟩)]) (i := 0) (s := I) (by omega) ⟨Int.le_refl 0, fr.rf _ _, fun k => by rw [if_neg (fun z => by omega)]⟩
  refine ⟨J, ?_, h3, h4⟩
  refine h1.trans ?_
  show f_M_worth_39 X v u (I 8 a) (I 4 0) J = _
  rw [e_M_worth_39, h3 77 (by decide), h.2.1, if_neg (by omega)]
theorem ok_worth (h : Rl I) {a v : Int} : Ok (f_T_worth X a v) (f_M_worth X a v) I := by
  have hn := h.1.n
  have e := h.1.2.1
  have hT := T_isTurn (X := X) (I := I) (a := a)
  have hM := M_isTurn (X := X) (I := I) (a := a) (by omega)
  rw [e] at hM
  by_cases ha : 0 ≤ a ∧ a < I 4 0
  · rw [if_pos ha] at hT hM
    by_cases hv : 0 ≤ v ∧ v ≤ 9
    · obtain ⟨I1, g1, g2, g3⟩ := G_giveWorth (X := X) (v := v) h.1 ha
      have e4 : I1 4 = I 4 := g2 4 (by decide)
      have e77 : I1 77 = I 77 := g2 77 (by decide)
      have e8 : I1 8 = I 8 := g2 8 (by decide)
      have hG1 : RlG I1 := h.1.cg (by rw [e4]) (g2 6 (by decide)) (g2 7 (by decide)) e8 (by rw [e77]) (g2 78 (by decide))
      obtain ⟨I2, m1, m2, m3⟩ := M_worth_39 (X := X) (v := v) (u := I 9 a) hG1 (a := a) (by rw [e4]; exact ha)
      have hw := h.2.2.2.2.2 a ha.1 ha.2
      refine ⟨I 9 a, I1, I2, ?_, ?_, ?_⟩
      · rw [e_T_worth, hT]
        simp only [Option.bind_some]
        rw [if_neg (by decide), if_neg (by omega), if_neg (by omega), if_pos (by omega), g1]
        rfl
      · have hM1 := M_isTurn (X := X) (I := I1) (a := a) (by rw [e77]; omega)
        rw [e77, e, if_pos ha] at hM1
        rw [e_M_worth, hM1]
        simp only [Option.bind_some, M_in]
        rw [if_neg (by decide), if_pos hv, if_neg (by decide), if_pos (by omega), M_classOf hG1 (by rw [e4]; exact ha)]
        simp only [Option.bind_some]
        rw [g2 79 (by decide), hw.1]
        exact m1
      · have f2 : fr [9, 79] I I2 := (g2.mono (by decide)).tr (m2.mono (by decide))
        refine ⟨h.1.cg (by rw [f2 4 (by decide)]) (f2 6 (by decide)) (f2 7 (by decide)) (f2 8 (by decide)) (by rw [f2 77 (by decide)]) (f2 78 (by decide)),
          h.2.1.cg (by rw [f2 10 (by decide)]) (by rw [f2 10 (by decide)]) (by rw [f2 10 (by decide)]) (by rw [f2 77 (by decide)]) (by rw [f2 77 (by decide)]) (f2 11 (by decide)) (f2 12 (by decide)) (f2 14 (by decide)) (f2 15 (by decide)) (f2 80 (by decide)) (f2 81 (by decide)),
          h.2.2.1.cg (by rw [f2 4 (by decide)]) (by rw [f2 10 (by decide)]) (f2 13 (by decide)) (f2 82 (by decide)) (f2 43 (by decide)) (fun r a b => f2 r (by simp only [List.mem_cons, List.not_mem_nil, or_false]; omega)) (by rw [f2 77 (by decide)]) (f2 88 (by decide)),
          h.2.2.2.1.cg (by rw [f2 3 (by decide)]) (by rw [f2 77 (by decide)]) (by rw [f2 10 (by decide)]) (by rw [f2 10 (by decide)]) (f2 11 (by decide)) (f2 12 (by decide)) (fun r a b => f2 r (by simp only [List.mem_cons, List.not_mem_nil, or_false]; omega)) (f2 83 (by decide)) (f2 84 (by decide)) (f2 85 (by decide)) (f2 86 (by decide)) (f2 87 (by decide)),
          h.2.2.2.2.1.cg (fun r a b => f2 r (by simp only [List.mem_cons, List.not_mem_nil, or_false]; omega)) (f2 89 (by decide)) (f2 90 (by decide)) (f2 91 (by decide)), ?_⟩
        intro k k0 k1
        rw [f2 4 (by decide)] at k1
        have hk := h.2.2.2.2.2 k k0 k1
        have x1 := g3 k
        have x2 := m3 k
        rw [e8, e4, g2 79 (by decide)] at x2
        rw [m2 9 (by decide), x1, x2]
        by_cases hz : (0 ≤ k ∧ k < I 4 0) ∧ I 8 k = I 8 a
        · rw [if_pos hz, if_pos hz]; omega
        · rw [if_neg hz, if_neg hz]; exact hk
    · refine ⟨-1, I, I, ?_, ?_, h⟩
      · rw [e_T_worth, hT]
        simp only [Option.bind_some]
        rw [if_neg (by decide)]
        by_cases q : v < 0
        · rw [if_pos q]
        · rw [if_neg q, if_pos (by omega)]
      · rw [e_M_worth, hM]
        simp only [Option.bind_some, M_in]
        rw [if_neg (by decide), if_neg hv]
        rfl
  · rw [if_neg ha] at hT hM
    refine ⟨-1, I, I, ?_, ?_, h⟩
    · rw [e_T_worth, hT]; rfl
    · rw [e_M_worth, hM]; rfl
end OPW
