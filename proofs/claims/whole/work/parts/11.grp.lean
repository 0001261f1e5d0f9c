theorem pl_cn (F : Int → Int → pm_O) (n : Int) (p : Int → Bool) (hn : 0 ≤ n) (h : ∀ i c, 0 ≤ i → i < n → 0 ≤ c → c ≤ i → F i c = F (i + 1) (c + (bif p i then 1 else 0))) : F 0 0 = F n (cn p n.toNat) := by
  obtain ⟨c, h1, h2⟩ := pl_loop F n (fun i c => 0 ≤ i ∧ c = cn p i.toNat) (fun i c hi hp => by
    obtain ⟨p0, p1⟩ := hp
    have hr := cn_r p i.toNat
    refine ⟨_, h i c p0 hi (by omega) (by omega), by omega, ?_⟩
    rw [show (i + 1).toNat = i.toNat + 1 by omega, p1]
    show _ = cn p i.toNat + (bif p (i.toNat : Nat) then 1 else 0)
    rw [show ((i.toNat : Nat) : Int) = i by omega]) (i := 0) (s := 0) hn ⟨Int.le_refl 0, rfl⟩
  rw [h1, h2.2]
section GRQ
variable {X : pm_XT} {I : pm_I}
def alk (I : pm_I) (a : Int) : Int := cn (fun b => decide (I 6 (8 * a + b) = I 6 (8 * b + a))) (I 4 0).toNat
theorem alk_r (I : pm_I) (hn : 1 ≤ I 4 0 ∧ I 4 0 ≤ 8) (a : Int) : 0 ≤ alk I a ∧ alk I a ≤ I 4 0 := by
  have := cn_r (fun b => decide (I 6 (8 * a + b) = I 6 (8 * b + a))) (I 4 0).toNat
  unfold alk
  omega
theorem bif_dec {c : Prop} {h : Decidable c} (x y : Int) : (bif decide c then x else y) = if c then x else y := by
  by_cases hc : c <;> simp [hc]
theorem G_alikeWith (h : RlG I) {a : Int} (ha : 0 ≤ a ∧ a < I 4 0) : f_G_alikeWith X a I = some (alk I a, I) := by
  have hn := h.n
  rw [e_G_alikeWith]
  refine (pl_cn (fun i c => f_G_alikeWith_4 X a c i I) (I 4 0) (fun b => decide (I 6 (8 * a + b) = I 6 (8 * b + a))) (by omega) (fun i c h0 h1 h2 h3 => ?_)).trans ?_
  · try dsimp only
    rw [e_G_alikeWith_4, if_pos h1, G_product (by omega) (by omega)]
    simp only [Option.bind_some]
    rw [G_product (by omega) (by omega)]
    simp only [Option.bind_some]
    rw [bif_dec]
    by_cases q : I 6 (8 * a + i) = I 6 (8 * i + a)
    · rw [if_pos q, if_pos (by omega), if_pos (by omega), if_pos q]
    · rw [if_neg q, if_pos (by omega), if_neg q]
      congr 1
      omega
  · rw [e_G_alikeWith_4, if_neg (by omega)]
    rfl
theorem M_alikeWith (h : RlG I) {a : Int} (ha : 0 ≤ a ∧ a < I 4 0) : f_M_alikeWith X a I = some (alk I a, I) := by
  have hn := h.n
  rw [e_M_alikeWith]
  refine (pl_cn (fun i c => f_M_alikeWith_4 X a c i I) (I 4 0) (fun b => decide (I 6 (8 * a + b) = I 6 (8 * b + a))) (by omega) (fun i c h0 h1 h2 h3 => ?_)).trans ?_
  · try dsimp only
    rw [e_M_alikeWith_4, h.2.1, if_pos h1, M_product (by omega) (by omega)]
    simp only [Option.bind_some]
    rw [M_product (by omega) (by omega)]
    simp only [Option.bind_some]
    rw [bif_dec, h.2.2.1 a i ha.1 ha.2 h0 h1, h.2.2.1 i a h0 h1 ha.1 ha.2]
    by_cases q : I 6 (8 * a + i) = I 6 (8 * i + a)
    · rw [if_pos q, if_pos (by omega), if_pos (by omega), if_pos q]
    · rw [if_neg q, if_pos (by omega), if_pos (by omega), if_neg q]
  · rw [e_M_alikeWith_4, h.2.1, if_neg (by omega)]
    rfl
theorem G_classSize (h : RlG I) {a : Int} (ha : 0 ≤ a ∧ a < I 4 0) : f_G_classSize X a I = some (cn (fun b => decide (I 8 b = I 8 a)) (I 4 0).toNat, I) := by
  have hn := h.n
  rw [e_G_classSize]
  refine (pl_cn (fun i c => f_G_classSize_4 X a c i I) (I 4 0) (fun b => decide (I 8 b = I 8 a)) (by omega) (fun i c h0 h1 h2 h3 => ?_)).trans ?_
  · try dsimp only
    rw [e_G_classSize_4, if_pos h1, if_pos (by omega), if_pos (by omega), bif_dec]
    by_cases q : I 8 i = I 8 a
    · rw [if_pos q, if_pos (by omega), if_pos (by omega), if_pos q]
    · rw [if_neg q, if_pos (by omega), if_neg q]
      congr 1
      omega
  · rw [e_G_classSize_4, if_neg (by omega)]
theorem M_turn_3 (h : RlG I) {a : Int} (ha : 0 ≤ a ∧ a < I 4 0) : f_M_turn_102 X a 0 0 I = some (cn (fun b => decide (I 8 b = I 8 a)) (I 4 0).toNat, I) := by
  have hn := h.n
  refine (pl_cn (fun i c => f_M_turn_102 X a c i I) (I 4 0) (fun b => decide (I 8 b = I 8 a)) (by omega) (fun i c h0 h1 h2 h3 => ?_)).trans ?_
  · try dsimp only
    rw [e_M_turn_102, h.2.1, if_pos h1, M_classOf h ⟨h0, h1⟩]
    simp only [Option.bind_some]
    rw [M_classOf h ha]
    simp only [Option.bind_some]
    rw [bif_dec]
    by_cases q : I 8 i = I 8 a
    · rw [if_pos q, if_pos (by omega), if_pos (by omega), if_pos q]
    · rw [if_neg q, if_pos (by omega), if_pos (by omega), if_neg q]
  · rw [e_M_turn_102, h.2.1, if_neg (by omega)]
theorem G_classesMany (h : RlG I) : f_G_classesMany X I = some (cn (fun b => decide (I 8 b = b)) (I 4 0).toNat, I) := by
  have hn := h.n
  rw [e_G_classesMany]
  refine (pl_cn (fun i c => f_G_classesMany_4 X c i I) (I 4 0) (fun b => decide (I 8 b = b)) (by omega) (fun i c h0 h1 h2 h3 => ?_)).trans ?_
  · try dsimp only
    rw [e_G_classesMany_4, if_pos h1, if_pos (by omega), bif_dec]
    by_cases q : I 8 i = i
    · rw [if_pos q, if_pos (by omega), if_pos (by omega), if_pos q]
    · rw [if_neg q, if_pos (by omega), if_neg q]
      congr 1
      omega
  · rw [e_G_classesMany_4, if_neg (by omega)]
theorem G_alikeWithAll (h : RlG I) : f_G_alikeWithAll X I = some (cn (fun b => decide (alk I b = I 4 0)) (I 4 0).toNat, I) := by
  have hn := h.n
  rw [e_G_alikeWithAll]
  refine (pl_cn (fun i c => f_G_alikeWithAll_4 X c i I) (I 4 0) (fun b => decide (alk I b = I 4 0)) (by omega) (fun i c h0 h1 h2 h3 => ?_)).trans ?_
  · try dsimp only
    rw [e_G_alikeWithAll_4, if_pos h1, G_alikeWith h ⟨h0, h1⟩]
    simp only [Option.bind_some]
    rw [bif_dec]
    by_cases q : alk I i = I 4 0
    · rw [if_pos q, if_pos (by omega), if_pos (by omega), if_pos q]
    · rw [if_neg q, if_pos (by omega), if_neg q]
      congr 1
      omega
  · rw [e_G_alikeWithAll_4, if_neg (by omega)]
theorem sg_alk (I : pm_I) (hn : 1 ≤ I 4 0 ∧ I 4 0 ≤ 8) : ∀ k : Nat, 0 ≤ sg (alk I) k ∧ sg (alk I) k ≤ 8 * k
  | 0 => ⟨Int.le_refl _, Int.le_refl _⟩
  | k + 1 => by
    have h1 := sg_alk I hn k
    have h2 := alk_r I hn k
    show 0 ≤ sg (alk I) k + alk I k ∧ sg (alk I) k + alk I k ≤ 8 * ((k + 1 : Nat) : Int)
    omega
theorem pl_sg (F : Int → Int → pm_O) (n : Int) (g : Int → Int) (hn : 0 ≤ n) (h : ∀ i c, 0 ≤ i → i < n → c = sg g i.toNat → F i c = F (i + 1) (c + g i)) : F 0 0 = F n (sg g n.toNat) := by
  obtain ⟨c, h1, h2⟩ := pl_loop F n (fun i c => 0 ≤ i ∧ c = sg g i.toNat) (fun i c hi hp => by
    obtain ⟨p0, p1⟩ := hp
    refine ⟨_, h i c p0 hi p1, by omega, ?_⟩
    rw [show (i + 1).toNat = i.toNat + 1 by omega, p1]
    show _ = sg g i.toNat + g (i.toNat : Nat)
    rw [show ((i.toNat : Nat) : Int) = i by omega]) (i := 0) (s := 0) hn ⟨Int.le_refl 0, rfl⟩
  rw [h1, h2.2]
theorem G_alikePairs (h : RlG I) : f_G_alikePairs X I = some (sg (alk I) (I 4 0).toNat, I) := by
  have hn := h.n
  rw [e_G_alikePairs]
  refine (pl_sg (fun i c => f_G_alikePairs_4 X c i I) (I 4 0) (alk I) (by omega) (fun i c h0 h1 h2 => ?_)).trans ?_
  · try dsimp only
    have q := alk_r I hn i
    have q2 := sg_alk I hn i.toNat
    rw [e_G_alikePairs_4, if_pos h1, G_alikeWith h ⟨h0, h1⟩]
    simp only [Option.bind_some]
    rw [if_pos (by omega), if_pos (by omega)]
  · rw [e_G_alikePairs_4, if_neg (by omega)]
theorem M_about_24 (h : RlG I) {v : Int} : f_M_about_24 X v 0 0 0 0 I = f_M_about_24 X v (cn (fun b => decide (I 8 b = b)) (I 4 0).toNat) (cn (fun b => decide (alk I b = I 4 0)) (I 4 0).toNat) (sg (alk I) (I 4 0).toNat) (I 4 0) I := by
  have hn := h.n
  obtain ⟨⟨c, m, p⟩, h1, h2⟩ := pl_loop (fun i (s : Int × Int × Int) => f_M_about_24 X v s.1 s.2.1 s.2.2 i I) (I 4 0) (fun i s => 0 ≤ i ∧ s = (cn (fun b => decide (I 8 b = b)) i.toNat, cn (fun b => decide (alk I b = I 4 0)) i.toNat, sg (alk I) i.toNat)) (fun i s hi hp => by
    obtain ⟨p0, p1⟩ := hp
    subst p1
    have r1 := cn_r (fun b => decide (I 8 b = b)) i.toNat
    have r2 := cn_r (fun b => decide (alk I b = I 4 0)) i.toNat
    have r3 := sg_alk I hn i.toNat
    have r4 := alk_r I hn i
    have e0 : ((i.toNat : Nat) : Int) = i := by omega
    refine ⟨_, ?_, by omega, rfl⟩
    rw [show (i + 1).toNat = i.toNat + 1 by omega]
    dsimp only
    have s1 : cn (fun b => decide (I 8 b = b)) (i.toNat + 1) = cn (fun b => decide (I 8 b = b)) i.toNat + if I 8 i = i then 1 else 0 := by
      show _ + (bif decide (I 8 (i.toNat : Nat) = ((i.toNat : Nat) : Int)) then 1 else 0) = _
      rw [bif_dec, e0]
    have s2 : cn (fun b => decide (alk I b = I 4 0)) (i.toNat + 1) = cn (fun b => decide (alk I b = I 4 0)) i.toNat + if alk I i = I 4 0 then 1 else 0 := by
      show _ + (bif decide (alk I (i.toNat : Nat) = I 4 0) then 1 else 0) = _
      rw [bif_dec, e0]
    have s3 : sg (alk I) (i.toNat + 1) = sg (alk I) i.toNat + alk I i := by
      show _ + alk I (i.toNat : Nat) = _
      rw [e0]
    rw [s1, s2, s3]
    generalize cn (fun b => decide (I 8 b = b)) i.toNat = c at *
    generalize cn (fun b => decide (alk I b = I 4 0)) i.toNat = m at *
    generalize sg (alk I) i.toNat = p at *
    rw [e_M_about_24, h.2.1, if_pos hi, M_classOf h ⟨p0, hi⟩]
    simp only [Option.bind_some, M_alikeWith h ⟨p0, hi⟩, h.2.1]
    by_cases q1 : I 8 i = i
    · by_cases q2 : alk I i = I 4 0
      · rw [if_pos q1, if_pos (by omega), if_pos q2, if_pos (by omega), if_pos (by omega), if_pos (by omega), if_pos q1, if_pos q2]
      · rw [if_pos q1, if_pos (by omega), if_neg q2, if_pos (by omega), if_pos (by omega), if_pos (by omega), if_pos q1, if_neg q2]
    · by_cases q2 : alk I i = I 4 0
      · rw [if_neg q1, if_pos (by omega), if_pos q2, if_pos (by omega), if_pos (by omega), if_pos (by omega), if_neg q1, if_pos q2]
      · rw [if_neg q1, if_pos (by omega), if_neg q2, if_pos (by omega), if_pos (by omega), if_pos (by omega), if_neg q1, if_neg q2]) (i := 0) (s := (0, 0, 0)) (by omega) ⟨Int.le_refl 0, rfl⟩
  have h2 := h2.2
  refine h1.trans ?_
  rw [h2]
/-! times, turn, about: nothing changes -/
theorem o_times (h : RlG I) {a b : Int} : ∃ r, f_T_times X a b I = some (r, I) ∧ f_M_times X a b I = some (r, I) := by
  have hn := h.n
  have e := h.2.1
  rw [e_T_times, e_M_times, T_isTurn, M_isTurn (by omega), e]
  simp only [Option.bind_some]
  by_cases ha : 0 ≤ a ∧ a < I 4 0
  · simp only [if_pos ha]
    rw [T_isTurn, M_isTurn (by omega), e]
    simp only [Option.bind_some]
    by_cases hb : 0 ≤ b ∧ b < I 4 0
    · simp only [if_pos hb]
      rw [G_product (by omega) (by omega), M_product (by omega) (by omega), h.2.2.1 a b ha.1 ha.2 hb.1 hb.2]
      exact ⟨_, rfl, rfl⟩
    · simp only [if_neg hb]
      exact ⟨_, rfl, rfl⟩
  · simp only [if_neg ha]
    exact ⟨_, rfl, rfl⟩
theorem o_about (h : RlG I) {v : Int} : ∃ r, f_T_about X v I = some (r, I) ∧ f_M_about X v I = some (r, I) := by
  have hn := h.n
  have e := h.2.1
  by_cases q : 0 ≤ v ∧ v ≤ 4
  · have hM : f_M_about X v I = f_M_about_24 X v (cn (fun b => decide (I 8 b = b)) (I 4 0).toNat) (cn (fun b => decide (alk I b = I 4 0)) (I 4 0).toNat) (sg (alk I) (I 4 0).toNat) (I 4 0) I := by
      rw [e_M_about, M_in, if_pos q, ← M_about_24 h]
      rfl
    rw [e_M_about_24, e, if_neg (by omega)] at hM
    rw [hM, e_T_about, G_classesMany h, G_alikeWithAll h, G_alikePairs h]
    have q9 : v = 0 ∨ v = 1 ∨ v = 2 ∨ v = 3 ∨ v = 4 := by omega
    rcases q9 with q9 | q9 | q9 | q9 | q9
    · subst q9; exact ⟨_, rfl, rfl⟩
    · subst q9; exact ⟨_, rfl, rfl⟩
    · subst q9; exact ⟨_, rfl, rfl⟩
    · subst q9; exact ⟨_, rfl, rfl⟩
    · subst q9
      by_cases q5 : cn (fun b => decide (alk I b = I 4 0)) (I 4 0).toNat = I 4 0
      · exact ⟨1, by simp [q5], by simp [q5]⟩
      · exact ⟨0, by simp [q5], by simp [q5]⟩
  · refine ⟨-1, ?_, ?_⟩
    · rw [e_T_about, if_neg (by omega), if_neg (by omega), if_neg (by omega), if_neg (by omega), if_neg (by omega)]
    · rw [e_M_about, M_in, if_neg q]
      rfl
/-! how often a turn is done until it is 0 -/
def pw (P : Int → Int → Int) (a : Int) : Nat → Int
  | 0 => a
  | k + 1 => P (pw P a k) a
theorem pw_r {n : Int} {P : Int → Int → Int} (g : GF n P) {a : Int} (ha : 0 ≤ a ∧ a < n) : ∀ k, 0 ≤ pw P a k ∧ pw P a k < n
  | 0 => ha
  | k + 1 => by
    have := pw_r g ha k
    exact g.2.1 _ _ this.1 this.2 ha.1 ha.2
/-- two like powers: what stands between them is 0 -/
theorem pw_back {n : Int} {P : Int → Int → Int} (g : GF n P) {a : Int} (ha : 0 ≤ a ∧ a < n) : ∀ (i j : Nat), pw P a i = pw P a (i + 1 + j) → pw P a j = 0
  | 0, j, h => by
    -- a = (pw j) a, so pw j = 0
    obtain ⟨b, hb, h1, -⟩ := g.2.2.2.2 a ha.1 ha.2
    have hj := pw_r g ha j
    have e : pw P a (0 + 1 + j) = P (pw P a j) a := by
      rw [show 0 + 1 + j = j + 1 by omega]; rfl
    have h2 : a = P (pw P a j) a := by rw [← e]; exact h
    have h3 : P (P (pw P a j) a) b = P (pw P a j) (P a b) := g.2.2.2.1 _ _ _ hj.1 hj.2 ha.1 ha.2 hb.1 hb.2
    rw [← h2, h1, (g.2.2.1 _ hj.1 hj.2).2] at h3
    exact h3.symm
  | i + 1, j, h => by
    obtain ⟨b, hb, h1, -⟩ := g.2.2.2.2 a ha.1 ha.2
    refine pw_back g ha i j ?_
    have hi := pw_r g ha i
    have hk := pw_r g ha (i + 1 + j)
    have e : pw P a (i + 1 + 1 + j) = P (pw P a (i + 1 + j)) a := by
      rw [show i + 1 + 1 + j = (i + 1 + j) + 1 by omega]; rfl
    have h2 : P (pw P a i) a = P (pw P a (i + 1 + j)) a := by rw [← e]; exact h
    have h3 := congrArg (fun x => P x b) h2
    have h4 : P (P (pw P a i) a) b = P (pw P a i) (P a b) := g.2.2.2.1 _ _ _ hi.1 hi.2 ha.1 ha.2 hb.1 hb.2
    have h5 : P (P (pw P a (i + 1 + j)) a) b = P (pw P a (i + 1 + j)) (P a b) := g.2.2.2.1 _ _ _ hk.1 hk.2 ha.1 ha.2 hb.1 hb.2
    have h3 : P (P (pw P a i) a) b = P (P (pw P a (i + 1 + j)) a) b := h3
    rw [h4, h5, h1, (g.2.2.1 _ hi.1 hi.2).2, (g.2.2.1 _ hk.1 hk.2).2] at h3
    exact h3
/-- more numbers than places: two are alike -/
theorem pig : ∀ (m : Nat) (f : Nat → Int), (∀ i, i < m + 1 → 0 ≤ f i ∧ f i < m) → ∃ i j, i < j ∧ j < m + 1 ∧ f i = f j
  | 0, f, h => by have := h 0 (by omega); omega
  | m + 1, f, h => by
    by_cases hl : ∃ i, i < m + 1 ∧ f i = f (m + 1)
    · obtain ⟨i, h1, h2⟩ := hl
      exact ⟨i, m + 1, by omega, by omega, h2⟩
    · have hn : ∀ i, i < m + 1 → f i ≠ f (m + 1) := fun i hi e => hl ⟨i, hi, e⟩
      have hlast := h (m + 1) (by omega)
      obtain ⟨i, j, h1, h2, h3⟩ := pig m (fun i => if f i < f (m + 1) then f i else f i - 1) (fun i hi => by
        have a1 := h i (by omega)
        have a2 := hn i hi
        by_cases q : f i < f (m + 1)
        · rw [if_pos q]; omega
        · rw [if_neg q]; omega)
      refine ⟨i, j, h1, by omega, ?_⟩
      have a1 := hn i (by omega)
      have a2 := hn j (by omega)
      by_cases q : f i < f (m + 1) <;> by_cases q2 : f j < f (m + 1)
      · rw [if_pos q, if_pos q2] at h3; exact h3
      · rw [if_pos q, if_neg q2] at h3; omega
      · rw [if_neg q, if_pos q2] at h3; omega
      · rw [if_neg q, if_neg q2] at h3; omega
/-- a turn comes back to 0 within n steps -/
theorem pw_zero {n : Int} {P : Int → Int → Int} (g : GF n P) {a : Int} (ha : 0 ≤ a ∧ a < n) : ∃ k : Nat, (k : Int) < n ∧ pw P a k = 0 := by
  by_cases hz : ∃ k : Nat, (k : Int) < n ∧ pw P a k = 0
  · exact hz
  · exfalso
    have hn : ∀ k : Nat, (k : Int) < n → pw P a k ≠ 0 := fun k hk e => hz ⟨k, hk, e⟩
    have g1 := g.1
    obtain ⟨i, j, h1, h2, h3⟩ := pig (n - 1).toNat (fun k => pw P a k - 1) (fun k hk => by
      have a1 := pw_r g ha k
      have a2 := hn k (by omega)
      omega)
    have h3 : pw P a i - 1 = pw P a j - 1 := h3
    have h4 := pw_back g ha i (j - i - 1) (by rw [show i + 1 + (j - i - 1) = j by omega]; omega)
    exact hn (j - i - 1) (by omega) h4
/-- the first such -/
theorem pw_first {P : Int → Int → Int} {a : Int} : ∀ k : Nat, (∃ i : Nat, i ≤ k ∧ pw P a i = 0) → ∃ m : Nat, m ≤ k ∧ pw P a m = 0 ∧ ∀ i : Nat, i < m → pw P a i ≠ 0
  | 0, h => by
    obtain ⟨i, h1, h2⟩ := h
    exact ⟨0, Nat.le_refl _, by rw [show 0 = i by omega]; exact h2, fun _ q => by omega⟩
  | k + 1, h => by
    by_cases hz : ∃ i : Nat, i ≤ k ∧ pw P a i = 0
    · obtain ⟨m, g1, g2, g3⟩ := pw_first k hz
      exact ⟨m, by omega, g2, g3⟩
    · obtain ⟨i, h1, h2⟩ := h
      have e : i = k + 1 := by
        by_cases q : i ≤ k
        · exact absurd ⟨i, q, h2⟩ hz
        · omega
      subst e
      exact ⟨k + 1, Nat.le_refl _, h2, fun i hi e => hz ⟨i, by omega, e⟩⟩
theorem o_order (h : RlG I) {a : Int} (ha : 0 ≤ a ∧ a < I 4 0) : ∃ r, f_G_orderOf X a I = some (r, I) ∧ f_M_turn_71 X a 1 a I = some (r, I) := by
  have hn := h.n
  obtain ⟨k, k1, k2⟩ := pw_zero h.1 ha
  obtain ⟨m, m1, m2, m3⟩ := pw_first (P := gP I) (a := a) k ⟨k, Nat.le_refl _, k2⟩
  refine ⟨(m : Int) + 1, ?_, ?_⟩
  · rw [e_G_orderOf]
    obtain ⟨s', h1, h2⟩ := pl_loop (fun i (v : Int) => f_G_orderOf_4 X a v (i + 1) I) m (fun i v => 0 ≤ i ∧ v = pw (gP I) a i.toNat) (fun i v hi hp => by
      obtain ⟨p0, p1⟩ := hp
      refine ⟨pw (gP I) a (i + 1).toNat, ?_, by omega, rfl⟩
      have r := pw_r h.1 ha i.toNat
      have nz := m3 i.toNat (by omega)
      rw [show (i + 1).toNat = i.toNat + 1 by omega]
      rw [e_G_orderOf_4, p1, if_neg nz, if_pos (by omega), G_product (by omega) (by omega)]
      simp only [Option.bind_some]
      rw [if_pos (by omega)]
      rfl) (i := 0) (s := a) (by omega) ⟨Int.le_refl 0, rfl⟩
    refine h1.trans ?_
    show f_G_orderOf_4 X a s' ((m : Int) + 1) I = _
    have e : s' = 0 := by rw [h2.2, Int.toNat_natCast]; exact m2
    rw [e_G_orderOf_4, if_pos e]
  · obtain ⟨s', h1, h2⟩ := pl_loop (fun i (v : Int) => f_M_turn_71 X a (i + 1) v I) m (fun i v => 0 ≤ i ∧ v = pw (gP I) a i.toNat) (fun i v hi hp => by
      obtain ⟨p0, p1⟩ := hp
      refine ⟨pw (gP I) a (i + 1).toNat, ?_, by omega, rfl⟩
      have r := pw_r h.1 ha i.toNat
      have nz := m3 i.toNat (by omega)
      rw [show (i + 1).toNat = i.toNat + 1 by omega]
      rw [e_M_turn_71, p1, if_neg nz, M_product (by omega) (by omega)]
      simp only [Option.bind_some]
      rw [if_pos (by omega), h.2.2.1 _ _ r.1 r.2 ha.1 ha.2]
      rfl) (i := 0) (s := a) (by omega) ⟨Int.le_refl 0, rfl⟩
    refine h1.trans ?_
    show f_M_turn_71 X a ((m : Int) + 1) s' I = _
    have e : s' = 0 := by rw [h2.2, Int.toNat_natCast]; exact m2
    rw [e_M_turn_71, if_pos e]
theorem o_turn (h : RlG I) (hv : RlV I) {a v : Int} : ∃ r, f_T_turn X a v I = some (r, I) ∧ f_M_turn X a v I = some (r, I) := by
  have hn := h.n
  have e := h.2.1
  have hT := T_isTurn (X := X) (I := I) (a := a)
  have hM := M_isTurn (X := X) (I := I) (a := a) (by omega)
  rw [e] at hM
  by_cases ha : 0 ≤ a ∧ a < I 4 0
  · rw [if_pos ha] at hT hM
    obtain ⟨r, o1, o2⟩ := o_order (X := X) h ha
    rw [e_T_turn, e_M_turn, hT, hM]
    simp only [Option.bind_some, M_in]
    rw [o1, M_backOf h ha, M_classOf h ha, M_turn_3 h ha, G_classSize h ha, G_alikeWith h ha, M_alikeWith h ha, o2, (hv a ha.1 ha.2).1]
    simp only [if_pos (show 0 ≤ a ∧ a < 8 by omega)]
    by_cases q : 0 ≤ v ∧ v ≤ 5
    · have q9 : v = 0 ∨ v = 1 ∨ v = 2 ∨ v = 3 ∨ v = 4 ∨ v = 5 := by omega
      rcases q9 with q9 | q9 | q9 | q9 | q9 | q9 <;> subst q9 <;> exact ⟨_, rfl, rfl⟩
    · refine ⟨-1, ?_, ?_⟩
      · rw [if_neg (by decide), if_neg (by omega), if_neg (by omega), if_neg (by omega), if_neg (by omega), if_neg (by omega), if_neg (by omega)]
      · rw [if_neg (by decide), if_neg q]
        rfl
  · rw [if_neg ha] at hT hM
    rw [e_T_turn, e_M_turn, hT, hM]
    exact ⟨-1, rfl, rfl⟩
end GRQ
