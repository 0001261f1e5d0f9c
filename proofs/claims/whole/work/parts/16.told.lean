/-- the turn of a walk of k steps -/
def wt (P : Int → Int → Int) (bk tn ln bf : Int → Int) : Nat → Int
  | 0 => 0
  | s + 1 => P (wt P bk tn ln bf s) (if bf s = 0 then tn (ln s) else bk (tn (ln s)))
theorem wt_r {P : Int → Int → Int} {bk tn ln bf : Int → Int} {n : Int} (hn : 1 ≤ n) (hP : ∀ x y, 0 ≤ x → x < n → 0 ≤ y → y < n → 0 ≤ P x y ∧ P x y < n) (hb : ∀ x, 0 ≤ x → x < n → 0 ≤ bk x ∧ bk x < n) : ∀ {k : Nat}, (∀ s : Nat, s < k → 0 ≤ tn (ln s) ∧ tn (ln s) < n) → 0 ≤ wt P bk tn ln bf k ∧ wt P bk tn ln bf k < n
  | 0, _ => ⟨Int.le_refl 0, by show (0 : Int) < n; omega⟩
  | k + 1, h => by
    have ih := wt_r (bf := bf) hn hP hb (k := k) (fun s hs => h s (by omega))
    have hk := h k (by omega)
    show 0 ≤ P _ (if _ then _ else _) ∧ P _ (if _ then _ else _) < n
    by_cases q : bf k = 0
    · rw [if_pos q]; exact hP _ _ ih.1 ih.2 hk.1 hk.2
    · rw [if_neg q]
      have := hb _ hk.1 hk.2
      exact hP _ _ ih.1 ih.2 this.1 this.2
theorem wt_congr {P Q : Int → Int → Int} {bk bk' tn tn' ln ln' bf bf' : Int → Int} {n : Int} (hn : 1 ≤ n) (hP : ∀ x y, 0 ≤ x → x < n → 0 ≤ y → y < n → P x y = Q x y ∧ 0 ≤ Q x y ∧ Q x y < n) (hb : ∀ x, 0 ≤ x → x < n → bk x = bk' x ∧ 0 ≤ bk' x ∧ bk' x < n) : ∀ {k : Nat}, (∀ s : Nat, s < k → tn (ln s) = tn' (ln' s) ∧ bf s = bf' s ∧ 0 ≤ tn' (ln' s) ∧ tn' (ln' s) < n) → wt P bk tn ln bf k = wt Q bk' tn' ln' bf' k
  | 0, _ => rfl
  | k + 1, h => by
    have ih := wt_congr hn hP hb (k := k) (fun s hs => h s (by omega))
    have r := wt_r (P := Q) (bk := bk') (tn := tn') (ln := ln') (bf := bf') hn (fun x y a b c d => (hP x y a b c d).2) (fun x a b => (hb x a b).2) (k := k) (fun s hs => (h s (by omega)).2.2)
    have hk := h k (by omega)
    show P _ (if _ then _ else _) = Q _ (if _ then _ else _)
    rw [ih, hk.1, hk.2.1]
    by_cases q : bf' k = 0
    · rw [if_pos q, if_pos q]; exact (hP _ _ r.1 r.2 hk.2.2.1 hk.2.2.2).1
    · rw [if_neg q, if_neg q]
      have z := hb _ hk.2.2.1 hk.2.2.2
      rw [z.1]
      exact (hP _ _ r.1 r.2 z.2.1 z.2.2).1
section OPD
variable {X : pm_XT} {I : pm_I}
def cld (I : pm_I) (w : Int) : Prop := 0 < I 84 w ∧ endv I w = I 83 w
theorem M_endOf (hB : RlB I) {w : Int} (w8 : 0 ≤ w ∧ w < 8) (h : RlW1 I w) : f_M_endOf X w I = some (endv I w, I) := by
  obtain ⟨q1, q2, q3, q4, q5⟩ := h
  have l := hB.2.1
  rw [e_M_endOf, if_pos w8]
  unfold endv
  by_cases z : I 84 w = 0
  · rw [if_pos z, if_pos w8, if_pos z]
  · have q9 := (q4 (I 84 w - 1) (by omega) (by omega)).1.2
    rw [show 6 * w + (I 84 w - 1) = 6 * w + I 84 w - 1 by omega] at q9
    have b := (hB.2.2.1 _ q9.1 q9.2).1
    rw [if_neg z, if_pos (by omega), if_pos (by omega), if_pos (by omega), if_pos (by omega), if_neg z]
    by_cases y : I 86 (6 * w + I 84 w - 1) = 0
    · rw [if_pos y, if_pos (by omega), if_pos (by omega), if_pos y, b.2]
    · rw [if_neg y, if_pos (by omega), if_pos (by omega), if_neg y, b.1]
theorem endv_r (hB : RlB I) {w : Int} (h : RlW1 I w) : 0 ≤ endv I w ∧ endv I w < I 10 0 := by
  obtain ⟨q1, q2, q3, q4, q5⟩ := h
  unfold endv
  by_cases z : I 84 w = 0
  · rw [if_pos z]; exact q1.2
  · have q9 := (q4 (I 84 w - 1) (by omega) (by omega)).1.2
    rw [show 6 * w + (I 84 w - 1) = 6 * w + I 84 w - 1 by omega] at q9
    have b := (hB.2.2.1 _ q9.1 q9.2).2
    rw [if_neg z]
    by_cases y : I 86 (6 * w + I 84 w - 1) = 0
    · rw [if_pos y]; exact b.2
    · rw [if_neg y]; exact b.1
theorem M_isClosed (hB : RlB I) {w : Int} (w8 : 0 ≤ w ∧ w < 8) (h : RlW1 I w) : (cld I w → f_M_isClosed X w I = some (1, I)) ∧ (¬ cld I w → f_M_isClosed X w I = some (0, I)) := by
  have e := M_endOf (X := X) hB w8 h
  rw [e_M_isClosed, if_pos w8]
  unfold cld
  by_cases z : 0 < I 84 w
  · rw [if_pos z, e]
    simp only [Option.bind_some]
    rw [if_pos w8]
    by_cases y : endv I w = I 83 w
    · rw [if_pos y]; exact ⟨fun _ => rfl, fun q => absurd ⟨z, y⟩ q⟩
    · rw [if_neg y]; exact ⟨fun q => absurd q.2 y, fun _ => rfl⟩
  · rw [if_neg z]; exact ⟨fun q => absurd q.1 z, fun _ => rfl⟩
theorem W_isClosed {w : Int} (w8 : 0 ≤ w ∧ w < 8) (h : RlW1 I w) : (cld I w → f_W_isClosed X (wk w) I = some (1, I)) ∧ (¬ cld I w → f_W_isClosed X (wk w) I = some (0, I)) := by
  obtain ⟨q1, q2, q3, q4, q5⟩ := h
  have c := (c_wk w8).2.1
  rw [e_W_isClosed, c, q2.1, q1.1, q5]
  simp only [show Nat.beq 5 5 = true from rfl, cond_true]
  unfold cld
  by_cases z : 0 < I 84 w
  · rw [if_pos z]
    by_cases y : I 83 w = endv I w
    · rw [if_pos y]; exact ⟨fun _ => rfl, fun q => absurd ⟨z, y.symm⟩ q⟩
    · rw [if_neg y]; exact ⟨fun q => absurd q.2.symm y, fun _ => rfl⟩
  · rw [if_neg z]; exact ⟨fun q => absurd q.1 z, fun _ => rfl⟩
/-- does a walk weigh -/
def wgh (I : pm_I) (w : Int) : Prop := ¬ I 87 w = 0 ∧ cld I w
theorem W_weighs {w : Int} (w8 : 0 ≤ w ∧ w < 8) (h : RlW1 I w) : (wgh I w → f_W_weighs X (wk w) I = some (1, I)) ∧ (¬ wgh I w → f_W_weighs X (wk w) I = some (0, I)) := by
  have hc := W_isClosed (X := X) w8 h
  obtain ⟨q1, q2, q3, q4, q5⟩ := h
  have c := (c_wk w8).2.1
  rw [e_W_weighs, c, q3.1]
  simp only [show Nat.beq 5 5 = true from rfl, cond_true]
  unfold wgh
  by_cases z : I 87 w = 0
  · rw [if_pos z]; exact ⟨fun q => absurd z q.1, fun _ => rfl⟩
  · rw [if_neg z]
    by_cases y : cld I w
    · rw [hc.1 y]; exact ⟨fun _ => rfl, fun q => absurd ⟨z, y⟩ q⟩
    · rw [hc.2 y]; exact ⟨fun q => absurd q.2 y, fun _ => rfl⟩
/-- the turn of a walk, by the turns of the lines that stand in a row -/
def wtn (I : pm_I) (r : Nat) (w : Int) : Int := wt (gP I) (I 7) (I r) (I (wk w + 1)) (I (wk w + 2)) (I 84 w).toNat
theorem W_turnWith (hG : RlG I) {w : Int} (w8 : 0 ≤ w ∧ w < 8) (h : RlW1 I w) (hl : I 10 1 ≤ 10) {r : Nat} (hr : pm_kd r = 8 ∧ pm_ln X.2 r = 10) (ht : ∀ k, 0 ≤ k → k < I 10 1 → 0 ≤ I r k ∧ I r k < I 4 0) : f_W_turnWith X (wk w) r I = some (wtn I r w, I) := by
  obtain ⟨q1, q2, q3, q4, q5⟩ := h
  have hn := hG.n
  obtain ⟨c1, c2, c3, c4, c5, c6⟩ := c_wk w8
  have cl := c_wkl X.2 w8
  have hrg : ∀ k : Nat, (k : Int) ≤ I 84 w → 0 ≤ wt (gP I) (I 7) (I r) (I (wk w + 1)) (I (wk w + 2)) k ∧ wt (gP I) (I 7) (I r) (I (wk w + 1)) (I (wk w + 2)) k < I 4 0 := fun k hk => wt_r (n := I 4 0) hn.1 (fun x y a b c d => hG.pr ⟨a, b⟩ ⟨c, d⟩) (fun x a b => hG.bk ⟨a, b⟩) (fun s hs => by
    have z := (q4 s (by omega) (by omega)).1
    rw [z.1]
    exact ht _ z.2.1 z.2.2)
  obtain ⟨v, g1, g2, g3⟩ := pl_loop (fun i (v : Int) => f_W_turnWith_5 X (wk w) r v i I) (I 84 w) (fun i v => 0 ≤ i ∧ v = wt (gP I) (I 7) (I r) (I (wk w + 1)) (I (wk w + 2)) i.toNat) (fun i v hi hp => by
    obtain ⟨p0, p1⟩ := hp
    have rv := hrg i.toNat (by omega)
    rw [← p1] at rv
    have z := (q4 i p0 hi).1
    have zb := (q4 i p0 hi).2
    have tr := ht _ z.2.1 z.2.2
    rw [← z.1] at tr
    have eN : ((i.toNat : Nat) : Int) = i := by omega
    refine ⟨wt (gP I) (I 7) (I r) (I (wk w + 1)) (I (wk w + 2)) (i + 1).toNat, ?_, by omega, rfl⟩
    rw [show (i + 1).toNat = i.toNat + 1 by omega]
    show f_W_turnWith_5 X (wk w) r v i I = f_W_turnWith_5 X (wk w) r (gP I (wt (gP I) (I 7) (I r) (I (wk w + 1)) (I (wk w + 2)) i.toNat) (if I (wk w + 2) ((i.toNat : Nat) : Int) = 0 then I r (I (wk w + 1) ((i.toNat : Nat) : Int)) else I 7 (I r (I (wk w + 1) ((i.toNat : Nat) : Int))))) (i + 1) I
    rw [eN, ← p1, e_W_turnWith_5, c2, c3, c4, c5, c6, cl.1, cl.2, hr.1, hr.2, q2.1]
    simp only [show Nat.beq 5 5 = true from rfl, show Nat.beq 8 8 = true from rfl, show Nat.beq 9 9 = true from rfl, cond_true]
    rw [if_pos hi, if_pos (by omega), if_pos (by omega), if_pos (by omega)]
    by_cases y : I (wk w + 2) i = 0
    · rw [if_pos y, if_pos y, G_product (by omega) (by omega)]
      simp only [Option.bind_some]
      rw [if_pos (by omega)]
    · have bkr := hG.bk tr
      rw [if_neg y, if_neg y, if_pos (by omega), G_product (by omega) (by omega)]
      simp only [Option.bind_some]
      rw [if_pos (by omega)]) (i := 0) (s := 0) q2.2.1 ⟨Int.le_refl 0, rfl⟩
  rw [e_W_turnWith]
  refine g1.trans ?_
  show f_W_turnWith_5 X (wk w) r v (I 84 w) I = _
  rw [e_W_turnWith_5, c2, q2.1]
  simp only [show Nat.beq 5 5 = true from rfl, cond_true]
  rw [if_neg (by omega), g3]
  rfl
theorem wtn_r (hG : RlG I) {w : Int} (h : RlW1 I w) {r : Nat} (ht : ∀ k, 0 ≤ k → k < I 10 1 → 0 ≤ I r k ∧ I r k < I 4 0) : 0 ≤ wtn I r w ∧ wtn I r w < I 4 0 := by
  obtain ⟨q1, q2, q3, q4, q5⟩ := h
  exact wt_r (n := I 4 0) hG.n.1 (fun x y a b c d => hG.pr ⟨a, b⟩ ⟨c, d⟩) (fun x a b => hG.bk ⟨a, b⟩) (fun s hs => by
    have z := (q4 s (by omega) (by omega)).1
    rw [z.1]
    exact ht _ z.2.1 z.2.2)
theorem M_turnOf (hG : RlG I) {w : Int} (w8 : 0 ≤ w ∧ w < 8) (h : RlW1 I w) (hl : I 10 1 ≤ 10) (hb : ∀ a, 0 ≤ a → a < I 4 0 → I 94 a = I 7 a) (ht : ∀ k, 0 ≤ k → k < I 10 1 → 0 ≤ I 93 k ∧ I 93 k < I 4 0) : f_M_turnOf X w I = some (wtn I 93 w, I) := by
  obtain ⟨q1, q2, q3, q4, q5⟩ := h
  have hn := hG.n
  have hrg : ∀ k : Nat, (k : Int) ≤ I 84 w → 0 ≤ wt (gP I) (I 7) (I 93) (I (wk w + 1)) (I (wk w + 2)) k ∧ wt (gP I) (I 7) (I 93) (I (wk w + 1)) (I (wk w + 2)) k < I 4 0 := fun k hk => wt_r (n := I 4 0) hn.1 (fun x y a b c d => hG.pr ⟨a, b⟩ ⟨c, d⟩) (fun x a b => hG.bk ⟨a, b⟩) (fun s hs => by
    have z := (q4 s (by omega) (by omega)).1
    rw [z.1]
    exact ht _ z.2.1 z.2.2)
  obtain ⟨v, g1, g2, g3⟩ := pl_loop (fun i (v : Int) => f_M_turnOf_7 X w v (6 * w + i) I) (I 84 w) (fun i v => 0 ≤ i ∧ v = wt (gP I) (I 7) (I 93) (I (wk w + 1)) (I (wk w + 2)) i.toNat) (fun i v hi hp => by
    obtain ⟨p0, p1⟩ := hp
    have rv := hrg i.toNat (by omega)
    rw [← p1] at rv
    have z := (q4 i p0 hi).1
    have zb := (q4 i p0 hi).2
    have tr := ht _ z.2.1 z.2.2
    have eN : ((i.toNat : Nat) : Int) = i := by omega
    refine ⟨wt (gP I) (I 7) (I 93) (I (wk w + 1)) (I (wk w + 2)) (i + 1).toNat, ?_, by omega, rfl⟩
    rw [show (i + 1).toNat = i.toNat + 1 by omega]
    show f_M_turnOf_7 X w v (6 * w + i) I = f_M_turnOf_7 X w (gP I (wt (gP I) (I 7) (I 93) (I (wk w + 1)) (I (wk w + 2)) i.toNat) (if I (wk w + 2) ((i.toNat : Nat) : Int) = 0 then I 93 (I (wk w + 1) ((i.toNat : Nat) : Int)) else I 7 (I 93 (I (wk w + 1) ((i.toNat : Nat) : Int))))) (6 * w + (i + 1)) I
    rw [eN, ← p1, z.1, zb.1, e_M_turnOf_7, if_pos (by omega), if_pos w8, if_pos (by omega), if_pos (by omega), if_pos (by omega), if_pos (by omega), if_pos (by omega), show 6 * w + (i + 1) = 6 * w + i + 1 by omega]
    by_cases y : I 86 (6 * w + i) = 0
    · rw [if_pos y, if_pos y, M_product (by omega) (by omega), hG.2.2.1 _ _ rv.1 rv.2 tr.1 tr.2]
      simp only [Option.bind_some]
      rw [if_pos (by omega)]
    · have bkr := hG.bk tr
      rw [if_neg y, if_neg y, if_pos (by omega), hb _ tr.1 tr.2, M_product (by omega) (by omega), hG.2.2.1 _ _ rv.1 rv.2 bkr.1 bkr.2]
      simp only [Option.bind_some]
      rw [if_pos (by omega)]) (i := 0) (s := 0) q2.2.1 ⟨Int.le_refl 0, rfl⟩
  rw [e_M_turnOf, if_pos (by omega)]
  have g1 : f_M_turnOf_7 X w 0 (6 * w + 0) I = f_M_turnOf_7 X w v (6 * w + I 84 w) I := g1
  rw [Int.add_zero] at g1
  rw [g1, e_M_turnOf_7, if_pos (by omega), if_pos w8, if_pos (by omega), if_neg (by omega), g3]
  rfl
theorem M_layBacks (hG : RlG I) : ∃ J, f_M_layBacks X I = some (0, J) ∧ fr [94] I J ∧ ∀ a, 0 ≤ a → a < I 4 0 → J 94 a = I 7 a := by
  have hn := hG.n
  obtain ⟨J, h1, h2, h3, h4⟩ := pl_loop (fun i (J : pm_I) => f_M_layBacks_2 X i J) (I 4 0) (fun i J => 0 ≤ i ∧ fr [94] I J ∧ ∀ a, 0 ≤ a → a < i → J 94 a = I 7 a) (fun i J hi hp => by
    obtain ⟨p0, p1, p2⟩ := hp
    have e77 : J 77 = I 77 := p1 77 (by decide)
    have e4 : J 4 = I 4 := p1 4 (by decide)
    have e7 : J 7 = I 7 := p1 7 (by decide)
    have hJ : RlG J := hG.fr p1 (by decide)
    show ∃ s', f_M_layBacks_2 X i J = f_M_layBacks_2 X (i + 1) s' ∧ _
    rw [e_M_layBacks_2, e77, hG.2.1, if_pos hi, M_backOf hJ (by rw [e4]; exact ⟨p0, hi⟩)]
    simp only [Option.bind_some]
    rw [if_pos (by omega), if_pos (by omega), e7]
    refine ⟨_, rfl, by omega, p1.up (by decide), fun a a0 a1 => ?_⟩
    rw [up_at]
    by_cases z : a = i
    · rw [if_pos z, z]
    · rw [if_neg z]; exact p2 a a0 (by omega)) (i := 0) (s := I) (by omega) ⟨Int.le_refl 0, fr.rf _ _, fun a a0 a1 => by omega⟩
  refine ⟨J, ?_, h3, h4⟩
  rw [e_M_layBacks]
  refine h1.trans ?_
  show f_M_layBacks_2 X (I 4 0) J = _
  rw [e_M_layBacks_2, (show J 77 = I 77 from h3 77 (by decide)), hG.2.1, if_neg (by omega)]
theorem M_takeLines : ∃ J, f_M_takeLines X I = some (0, J) ∧ fr [93] I J ∧ ∀ a, 0 ≤ a → a < 10 → J 93 a = I 82 a := by
  obtain ⟨J, h1, h2, h3, h4⟩ := pl_loop (fun i (J : pm_I) => f_M_takeLines_2 X i J) 10 (fun i J => 0 ≤ i ∧ fr [93] I J ∧ ∀ a, 0 ≤ a → a < i → J 93 a = I 82 a) (fun i J hi hp => by
    obtain ⟨p0, p1, p2⟩ := hp
    show ∃ s', f_M_takeLines_2 X i J = f_M_takeLines_2 X (i + 1) s' ∧ _
    rw [e_M_takeLines_2, if_pos hi, if_pos (by omega), if_pos (by omega), if_pos (by omega), p1 82 (by decide)]
    refine ⟨_, rfl, by omega, p1.up (by decide), fun a a0 a1 => ?_⟩
    rw [up_at]
    by_cases z : a = i
    · rw [if_pos z, z]
    · rw [if_neg z]; exact p2 a a0 (by omega)) (i := 0) (s := I) (by omega) ⟨Int.le_refl 0, fr.rf _ _, fun a a0 a1 => by omega⟩
  refine ⟨J, ?_, h3, h4⟩
  rw [e_M_takeLines]
  refine h1.trans ?_
  show f_M_takeLines_2 X 10 J = _
  rw [e_M_takeLines_2, if_neg (by omega)]
/-- a walk's turn is the same, by any row that holds the same turns -/
theorem wtn_congr (hG : RlG I) {J : pm_I} (e4 : J 4 0 = I 4 0) (e6 : J 6 = I 6) (e7 : J 7 = I 7) {w : Int} (h : RlW1 I w) (r0 : J 84 w = I 84 w) (r1 : J (wk w + 1) = I (wk w + 1)) (r2 : J (wk w + 2) = I (wk w + 2)) {r q : Nat} (ht : ∀ k, 0 ≤ k → k < I 10 1 → J q k = I r k ∧ 0 ≤ I r k ∧ I r k < I 4 0) : wtn J q w = wtn I r w := by
  obtain ⟨q1, q2, q3, q4, q5⟩ := h
  unfold wtn gP
  rw [e6, e7, r0, r1, r2]
  exact wt_congr (n := I 4 0) hG.n.1 (fun x y a b c d => ⟨rfl, hG.pr ⟨a, b⟩ ⟨c, d⟩⟩) (fun x a b => ⟨rfl, hG.bk ⟨a, b⟩⟩) (fun s hs => by
    have z := (q4 s (by omega) (by omega)).1
    rw [z.1]
    have := ht _ z.2.1 z.2.2
    exact ⟨this.1, rfl, this.2⟩)
end OPD
