/-! PURE: words and rules for what the functions do -/
theorem up_eq (I : pm_I) (r : Nat) (k v : Int) : pm_up I r k v r k = v := by simp [pm_up]
theorem up_ne (I : pm_I) {r : Nat} {k v j : Int} (h : j ≠ k) : pm_up I r k v r j = I r j := by simp [pm_up, h]
theorem up_rw (I : pm_I) {r q : Nat} {k v : Int} (h : q ≠ r) : pm_up I r k v q = I q := by funext j; simp [pm_up, h]
theorem up_at (I : pm_I) (r : Nat) (k v j : Int) : pm_up I r k v r j = if j = k then v else I r j := by simp [pm_up]
/-- nothing but the rows rs has changed -/
def fr (rs : List Nat) (I I' : pm_I) : Prop := ∀ r, r ∉ rs → I' r = I r
theorem fr.rf (rs : List Nat) (I : pm_I) : fr rs I I := fun _ _ => rfl
theorem fr.up {rs : List Nat} {I I' : pm_I} (h : fr rs I I') {r : Nat} {k v : Int} (hr : r ∈ rs) : fr rs I (pm_up I' r k v) := fun q hq => by
  rw [up_rw I' (fun e => hq (by rw [e]; exact hr))]
  exact h q hq
theorem fr.tr {rs : List Nat} {I I' I'' : pm_I} (h : fr rs I I') (h' : fr rs I' I'') : fr rs I I'' := fun q hq => (h' q hq).trans (h q hq)
theorem fr.mono {rs rs' : List Nat} {I I' : pm_I} (h : fr rs I I') (hs : ∀ r, r ∈ rs → r ∈ rs') : fr rs' I I' := fun q hq => h q (fun z => hq (hs q z))
/-- a loop that counts up -/
theorem pl_for {σ : Type} (F : Int → σ → pm_O) (hi : Int) (P : Int → σ → Prop) (h : ∀ i s, i < hi → P i s → ∃ s', F i s = F (i + 1) s' ∧ P (i + 1) s') : ∀ (k : Nat) (i : Int) (s : σ), i + k = hi → P i s → ∃ s', F i s = F hi s' ∧ P hi s'
  | 0, i, s, e, hP => ⟨s, by rw [show i = hi by omega], by rw [show hi = i by omega]; exact hP⟩
  | k + 1, i, s, e, hP => by
    obtain ⟨s1, h1, h2⟩ := h i s (by omega) hP
    obtain ⟨s2, h3, h4⟩ := pl_for F hi P h k (i + 1) s1 (by omega) h2
    exact ⟨s2, h1.trans h3, h4⟩
theorem pl_loop {σ : Type} (F : Int → σ → pm_O) (hi : Int) (P : Int → σ → Prop) (h : ∀ i s, i < hi → P i s → ∃ s', F i s = F (i + 1) s' ∧ P (i + 1) s') {i : Int} {s : σ} (e : i ≤ hi) (hP : P i s) : ∃ s', F i s = F hi s' ∧ P hi s' := pl_for F hi P h (hi - i).toNat i s (by omega) hP
/-- a loop that counts up and may end early, with Q -/
theorem pl_forQ {σ : Type} (F : Int → σ → pm_O) (hi : Int) (P : Int → σ → Prop) (Q : Int × pm_I → Prop) (h : ∀ i s, i < hi → P i s → (∃ r, F i s = some r ∧ Q r) ∨ ∃ s', F i s = F (i + 1) s' ∧ P (i + 1) s') : ∀ (k : Nat) (i : Int) (s : σ), i + k = hi → P i s → (∃ r, F i s = some r ∧ Q r) ∨ ∃ s', F i s = F hi s' ∧ P hi s'
  | 0, i, s, e, hP => Or.inr ⟨s, by rw [show i = hi by omega], by rw [show hi = i by omega]; exact hP⟩
  | k + 1, i, s, e, hP => by
    rcases h i s (by omega) hP with ⟨r, h1, h2⟩ | ⟨s1, h1, h2⟩
    · exact Or.inl ⟨r, h1, h2⟩
    · rcases pl_forQ F hi P Q h k (i + 1) s1 (by omega) h2 with ⟨r, h3, h4⟩ | ⟨s2, h3, h4⟩
      · exact Or.inl ⟨r, h1.trans h3, h4⟩
      · exact Or.inr ⟨s2, h1.trans h3, h4⟩
theorem pl_loopQ {σ : Type} (F : Int → σ → pm_O) (hi : Int) (P : Int → σ → Prop) (Q : Int × pm_I → Prop) (h : ∀ i s, i < hi → P i s → (∃ r, F i s = some r ∧ Q r) ∨ ∃ s', F i s = F (i + 1) s' ∧ P (i + 1) s') {i : Int} {s : σ} (e : i ≤ hi) (hP : P i s) : (∃ r, F i s = some r ∧ Q r) ∨ ∃ s', F i s = F hi s' ∧ P hi s' := pl_forQ F hi P Q h (hi - i).toNat i s (by omega) hP
/-- how many of 0 .. k-1 -/
def cn (p : Int → Bool) : Nat → Int
  | 0 => 0
  | k + 1 => cn p k + (bif p k then 1 else 0)
theorem cn_r (p : Int → Bool) : ∀ k : Nat, 0 ≤ cn p k ∧ cn p k ≤ k
  | 0 => ⟨Int.le_refl _, Int.le_refl _⟩
  | k + 1 => by
    have h := cn_r p k
    have : cn p (k + 1) = cn p k + (bif p k then 1 else 0) := rfl
    rw [this]
    cases p k <;> simp only [cond_true, cond_false] <;> omega
theorem cn_congr {p q : Int → Bool} : ∀ {k : Nat}, (∀ i : Nat, i < k → p i = q i) → cn p k = cn q k
  | 0, _ => rfl
  | k + 1, h => by
    show cn p k + (bif p k then 1 else 0) = cn q k + (bif q k then 1 else 0)
    rw [cn_congr (fun i hi => h i (by omega)), h k (by omega)]
/-- the sum of g 0 .. g (k-1) -/
def sg (g : Int → Int) : Nat → Int
  | 0 => 0
  | k + 1 => sg g k + g k
/-- a group on 0 .. n-1 -/
def GF (n : Int) (P : Int → Int → Int) : Prop := (1 ≤ n ∧ n ≤ 8) ∧ (∀ a b, 0 ≤ a → a < n → 0 ≤ b → b < n → 0 ≤ P a b ∧ P a b < n) ∧ (∀ a, 0 ≤ a → a < n → P 0 a = a ∧ P a 0 = a) ∧
  (∀ a b c, 0 ≤ a → a < n → 0 ≤ b → b < n → 0 ≤ c → c < n → P (P a b) c = P a (P b c)) ∧ ∀ a, 0 ≤ a → a < n → ∃ b, (0 ≤ b ∧ b < n) ∧ P a b = 0 ∧ P b a = 0
/-- b is the first with P a b = 0 -/
def Bk (n : Int) (P : Int → Int → Int) (a b : Int) : Prop := (0 ≤ b ∧ b < n) ∧ P a b = 0 ∧ ∀ c, 0 ≤ c → c < b → P a c ≠ 0
theorem Bk.uniq {n : Int} {P : Int → Int → Int} {a b c : Int} (h : Bk n P a b) (h' : Bk n P a c) : b = c := by
  by_cases q : b < c
  · exact absurd h.2.1 (h'.2.2 b h.1.1 q)
  · by_cases q2 : c < b
    · exact absurd h'.2.1 (h.2.2 c h'.1.1 q2)
    · omega
/-- the least of a and of the products with g = 0 .. k-1 around a -/
def clsF (P : Int → Int → Int) (bk : Int → Int) (a : Int) : Nat → Int
  | 0 => a
  | k + 1 => min (clsF P bk a k) (P (P k a) (bk k))
theorem clsF_congr {P Q : Int → Int → Int} {bk bk' : Int → Int} {a n : Int} (hP : ∀ x y, 0 ≤ x → x < n → 0 ≤ y → y < n → P x y = Q x y ∧ 0 ≤ Q x y ∧ Q x y < n) (hb : ∀ x, 0 ≤ x → x < n → bk x = bk' x ∧ 0 ≤ bk' x ∧ bk' x < n) (ha : 0 ≤ a ∧ a < n) : ∀ {k : Nat}, (k : Int) ≤ n → clsF P bk a k = clsF Q bk' a k
  | 0, _ => rfl
  | k + 1, h => by
    show min _ _ = min _ _
    have h1 := hP k a (by omega) (by omega) ha.1 ha.2
    have h2 := hb k (by omega) (by omega)
    rw [clsF_congr hP hb ha (k := k) (by omega), h1.1, h2.1, (hP (Q k a) (bk' k) h1.2.1 h1.2.2 h2.2.1 h2.2.2).1]
theorem clsF_r {P : Int → Int → Int} {bk : Int → Int} {a n : Int} (hP : ∀ x y, 0 ≤ x → x < n → 0 ≤ y → y < n → 0 ≤ P x y ∧ P x y < n) (hb : ∀ x, 0 ≤ x → x < n → 0 ≤ bk x ∧ bk x < n) (ha : 0 ≤ a ∧ a < n) : ∀ {k : Nat}, (k : Int) ≤ n → 0 ≤ clsF P bk a k ∧ clsF P bk a k < n
  | 0, _ => ha
  | k + 1, h => by
    have h1 := hP k a (by omega) (by omega) ha.1 ha.2
    have h2 := hb k (by omega) (by omega)
    have h3 := hP (P k a) (bk k) h1.1 h1.2 h2.1 h2.2
    have h4 := clsF_r hP hb ha (k := k) (by omega)
    show 0 ≤ min _ _ ∧ min _ _ < n
    omega
abbrev gP (I : pm_I) (a b : Int) : Int := I 6 (8 * a + b)
/-- the group of the class and that of the reference -/
def RlG (I : pm_I) : Prop := GF (I 4 0) (gP I) ∧ I 77 0 = I 4 0 ∧ (∀ a b, 0 ≤ a → a < I 4 0 → 0 ≤ b → b < I 4 0 → I 78 (8 * a + b) = I 6 (8 * a + b)) ∧ (∀ a, 0 ≤ a → a < I 4 0 → Bk (I 4 0) (gP I) a (I 7 a)) ∧
  ∀ a, 0 ≤ a → a < I 4 0 → I 8 a = clsF (gP I) (I 7) a (I 4 0).toNat
def RlV (I : pm_I) : Prop := ∀ a, 0 ≤ a → a < I 4 0 → I 79 a = I 9 a ∧ 0 ≤ I 9 a ∧ I 9 a ≤ 9
section GRP
variable {X : pm_XT} {I : pm_I}
theorem RlG.n (h : RlG I) : 1 ≤ I 4 0 ∧ I 4 0 ≤ 8 := h.1.1
theorem RlG.pr (h : RlG I) {a b : Int} (ha : 0 ≤ a ∧ a < I 4 0) (hb : 0 ≤ b ∧ b < I 4 0) : 0 ≤ I 6 (8 * a + b) ∧ I 6 (8 * a + b) < I 4 0 := h.1.2.1 a b ha.1 ha.2 hb.1 hb.2
theorem RlG.bk (h : RlG I) {a : Int} (ha : 0 ≤ a ∧ a < I 4 0) : 0 ≤ I 7 a ∧ I 7 a < I 4 0 := (h.2.2.2.1 a ha.1 ha.2).1
theorem RlG.cl (h : RlG I) {a : Int} (ha : 0 ≤ a ∧ a < I 4 0) : 0 ≤ I 8 a ∧ I 8 a < I 4 0 := by
  rw [h.2.2.2.2 a ha.1 ha.2]
  have hn := h.n
  exact clsF_r (fun x y h1 h2 h3 h4 => h.pr ⟨h1, h2⟩ ⟨h3, h4⟩) (fun x h1 h2 => h.bk ⟨h1, h2⟩) ha (by omega)
theorem G_product {a b : Int} (ha : 0 ≤ a ∧ a < 8) (hb : 0 ≤ b ∧ b < 8) : f_G_product X a b I = some (I 6 (8 * a + b), I) := by
  rw [e_G_product, if_pos (by omega), if_pos (by omega), if_pos (by omega)]
theorem M_product {a b : Int} (ha : 0 ≤ a ∧ a < 8) (hb : 0 ≤ b ∧ b < 8) : f_M_product X a b I = some (I 78 (8 * a + b), I) := by
  rw [e_M_product, if_pos (by omega), if_pos (by omega), if_pos (by omega)]
theorem M_in {v a b : Int} : f_M_in X v a b I = some (if a ≤ v ∧ v ≤ b then 1 else 0, I) := by
  rw [e_M_in]
  repeat' split
  all_goals first | rfl | (exfalso; omega)
theorem T_isTurn {a : Int} : f_T_isTurn X a I = some (if 0 ≤ a ∧ a < I 4 0 then 1 else 0, I) := by
  rw [e_T_isTurn]
  by_cases h1 : a < 0
  · rw [if_pos h1, if_neg (by omega)]
  · rw [if_neg h1]
    by_cases h2 : a < I 4 0
    · rw [if_pos h2, if_pos (by omega)]
    · rw [if_neg h2, if_neg (by omega)]
theorem T_isPoint {a : Int} : f_T_isPoint X a I = some (if 0 ≤ a ∧ a < I 10 0 then 1 else 0, I) := by
  rw [e_T_isPoint]
  by_cases h1 : a < 0
  · rw [if_pos h1, if_neg (by omega)]
  · rw [if_neg h1]
    by_cases h2 : a < I 10 0
    · rw [if_pos h2, if_pos (by omega)]
    · rw [if_neg h2, if_neg (by omega)]
theorem T_isLine {a : Int} : f_T_isLine X a I = some (if 0 ≤ a ∧ a < I 10 1 then 1 else 0, I) := by
  rw [e_T_isLine]
  by_cases h1 : a < 0
  · rw [if_pos h1, if_neg (by omega)]
  · rw [if_neg h1]
    by_cases h2 : a < I 10 1
    · rw [if_pos h2, if_pos (by omega)]
    · rw [if_neg h2, if_neg (by omega)]
theorem T_isWalk {a : Int} : f_T_isWalk X a I = some (if 0 ≤ a ∧ a < I 3 3 then 1 else 0, I) := by
  rw [e_T_isWalk]
  by_cases h1 : a < 0
  · rw [if_pos h1, if_neg (by omega)]
  · rw [if_neg h1]
    by_cases h2 : a < I 3 3
    · rw [if_pos h2, if_pos (by omega)]
    · rw [if_neg h2, if_neg (by omega)]
theorem T_isSheet {a : Int} : f_T_isSheet X a I = some (if 0 ≤ a ∧ a < 4 then 1 else 0, I) := by
  rw [e_T_isSheet]
  by_cases h1 : a < 0
  · rw [if_pos h1, if_neg (by omega)]
  · rw [if_neg h1]
    by_cases h2 : a < 4
    · rw [if_pos h2, if_pos (by omega)]
    · rw [if_neg h2, if_neg (by omega)]
theorem T_isLane {a : Int} : f_T_isLane X a I = some (if 0 ≤ a ∧ a < 3 then 1 else 0, I) := by
  rw [e_T_isLane]
  by_cases h1 : a < 0
  · rw [if_pos h1, if_neg (by omega)]
  · rw [if_neg h1]
    by_cases h2 : a < 3
    · rw [if_pos h2, if_pos (by omega)]
    · rw [if_neg h2, if_neg (by omega)]
theorem M_isTurn {a : Int} (hn : 0 ≤ I 77 0 ∧ I 77 0 ≤ 100) : f_M_isTurn X a I = some (if 0 ≤ a ∧ a < I 77 0 then 1 else 0, I) := by
  rw [e_M_isTurn, if_pos (by omega), M_in]
  by_cases h : 0 ≤ a ∧ a ≤ I 77 0 - 1
  · rw [if_pos h, if_pos (by omega)]; simp
  · rw [if_neg h, if_neg (by omega)]; simp
theorem M_isPoint {a : Int} (hn : 0 ≤ I 77 3 ∧ I 77 3 ≤ 100) : f_M_isPoint X a I = some (if 0 ≤ a ∧ a < I 77 3 then 1 else 0, I) := by
  rw [e_M_isPoint, if_pos (by omega), M_in]
  by_cases h : 0 ≤ a ∧ a ≤ I 77 3 - 1
  · rw [if_pos h, if_pos (by omega)]; simp
  · rw [if_neg h, if_neg (by omega)]; simp
theorem M_isLine {a : Int} (hn : 0 ≤ I 77 4 ∧ I 77 4 ≤ 100) : f_M_isLine X a I = some (if 0 ≤ a ∧ a < I 77 4 then 1 else 0, I) := by
  rw [e_M_isLine, if_pos (by omega), M_in]
  by_cases h : 0 ≤ a ∧ a ≤ I 77 4 - 1
  · rw [if_pos h, if_pos (by omega)]; simp
  · rw [if_neg h, if_neg (by omega)]; simp
theorem M_isWalk {a : Int} (hn : 0 ≤ I 77 8 ∧ I 77 8 ≤ 100) : f_M_isWalk X a I = some (if 0 ≤ a ∧ a < I 77 8 then 1 else 0, I) := by
  rw [e_M_isWalk, if_pos (by omega), M_in]
  by_cases h : 0 ≤ a ∧ a ≤ I 77 8 - 1
  · rw [if_pos h, if_pos (by omega)]; simp
  · rw [if_neg h, if_neg (by omega)]; simp
/-- the reference's back is the class's -/
theorem M_backOf (h : RlG I) {a : Int} (ha : 0 ≤ a ∧ a < I 4 0) : f_M_backOf X a I = some (I 7 a, I) := by
  have hn := h.n
  have hb := h.2.2.2.1 a ha.1 ha.2
  obtain ⟨s', h1, h2⟩ := pl_loop (fun i (_ : Unit) => f_M_backOf_2 X a i I) (I 7 a) (fun i _ => 0 ≤ i) (fun i s hi hp => ⟨(), by
    have hp : 0 ≤ i := hp
    show f_M_backOf_2 X a i I = f_M_backOf_2 X a (i + 1) I
    rw [e_M_backOf_2, M_product (by omega) (by have := hb.1; omega)]
    simp only [Option.bind_some]
    rw [h.2.2.1 a i ha.1 ha.2 hp (by have := hb.1; omega), if_neg (hb.2.2 i hp hi), if_pos (by have := hb.1; omega)], by show (0 : Int) ≤ i + 1; have : 0 ≤ i := hp; omega⟩) (i := 0) (s := ()) hb.1.1 (Int.le_refl 0)
  rw [e_M_backOf]
  refine h1.trans ?_
  show f_M_backOf_2 X a (I 7 a) I = _
  rw [e_M_backOf_2, M_product (by omega) (by have := hb.1; omega)]
  simp only [Option.bind_some]
  rw [h.2.2.1 a _ ha.1 ha.2 hb.1.1 hb.1.2, if_pos hb.2.1]
theorem M_classOf (h : RlG I) {a : Int} (ha : 0 ≤ a ∧ a < I 4 0) : f_M_classOf X a I = some (I 8 a, I) := by
  have hn := h.n
  obtain ⟨s', h1, h2⟩ := pl_loop (fun i (m : Int) => f_M_classOf_4 X a m i I) (I 4 0) (fun i m => 0 ≤ i ∧ m = clsF (gP I) (I 7) a i.toNat) (fun i m hi hp => by
    obtain ⟨p0, p1⟩ := hp
    have hi2 : 0 ≤ i ∧ i < I 4 0 := ⟨p0, hi⟩
    have q1 := h.pr hi2 ha
    have q2 := h.bk hi2
    have q3 := h.pr q1 q2
    refine ⟨clsF (gP I) (I 7) a (i + 1).toNat, ?_, by omega, rfl⟩
    have e1 : (i + 1).toNat = i.toNat + 1 := by omega
    have e2 : ((i.toNat : Nat) : Int) = i := by omega
    rw [e_M_classOf_4, h.2.1, if_pos hi, M_product (by omega) (by omega)]
    simp only [Option.bind_some]
    rw [h.2.2.1 i a p0 hi ha.1 ha.2, M_backOf h hi2]
    simp only [Option.bind_some]
    rw [M_product (by omega) (by omega)]
    simp only [Option.bind_some]
    rw [h.2.2.1 _ _ q1.1 q1.2 q2.1 q2.2, e1]
    have e3 : clsF (gP I) (I 7) a (i.toNat + 1) = min m (I 6 (8 * I 6 (8 * i + a) + I 7 i)) := by
      show min _ _ = _
      rw [← p1, e2]
    rw [e3]
    by_cases hc : I 6 (8 * I 6 (8 * i + a) + I 7 i) < m
    · rw [if_pos hc, if_pos (by omega)]
      congr 1
      omega
    · rw [if_neg hc, if_pos (by omega)]
      congr 1
      omega) (i := 0) (s := a) (by omega) ⟨by omega, rfl⟩
  rw [e_M_classOf]
  refine h1.trans ?_
  show f_M_classOf_4 X a s' (I 4 0) I = _
  rw [e_M_classOf_4, h.2.1, if_neg (by omega), h2.2, ← h.2.2.2.2 a ha.1 ha.2]
end GRP
