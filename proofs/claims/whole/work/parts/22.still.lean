/-! still: points are reached along the tree -/
def up1 (s : Int → Int) (p v : Int) : Int → Int := fun q => if q = p then v else s q
abbrev stT : Type := (Int → Int) × (Int → Int)
def lst (I : pm_I) (k : Int) (σ : stT) : stT :=
  if inT (I 11) (I 12) k = true then (if ¬ σ.2 (I 11 k) = 0 ∧ σ.2 (I 12 k) = 0 then (up1 σ.1 (I 12 k) (gP I (σ.1 (I 11 k)) (I 13 k)), up1 σ.2 (I 12 k) 1)
    else if ¬ σ.2 (I 12 k) = 0 ∧ σ.2 (I 11 k) = 0 then (up1 σ.1 (I 11 k) (gP I (σ.1 (I 12 k)) (I 7 (I 13 k))), up1 σ.2 (I 11 k) 1) else σ) else σ
def rl (I : pm_I) (σ : stT) : Nat → stT
  | 0 => σ
  | k + 1 => lst I k (rl I σ k)
def rr (I : pm_I) (σ : stT) : Nat → stT
  | 0 => σ
  | r + 1 => rl I (rr I σ r) (I 10 1).toNat
def Ag (N : Int) (σ τ : stT) : Prop := ∀ p, 0 ≤ p → p < N → σ.1 p = τ.1 p ∧ σ.2 p = τ.2 p
def Vl (N n : Int) (σ : stT) : Prop := ∀ p, 0 ≤ p → p < N → (0 ≤ σ.1 p ∧ σ.1 p < n) ∧ (σ.2 p = 0 ∨ σ.2 p = 1)
theorem up1_eq (s : Int → Int) (p v : Int) : up1 s p v p = v := if_pos rfl
theorem up1_ne (s : Int → Int) {p q v : Int} (h : q ≠ p) : up1 s p v q = s q := if_neg h
section STL
variable {X : pm_XT} {I : pm_I}
theorem lst_ag {σ τ : stT} {k : Int} (hB : RlB I) (hk : 0 ≤ k ∧ k < I 10 1) (h : Ag (I 10 0) σ τ) : Ag (I 10 0) (lst I k σ) (lst I k τ) := by
  have b := (hB.2.2.1 k hk.1 hk.2).2
  have a1 := h _ b.1.1 b.1.2
  have a2 := h _ b.2.1 b.2.2
  have hup : ∀ (s s' : Int → Int) (p v v' : Int), v = v' → (∀ q, 0 ≤ q → q < I 10 0 → s q = s' q) → ∀ q, 0 ≤ q → q < I 10 0 → up1 s p v q = up1 s' p v' q := fun s s' p v v' hv hs q q0 q1 => by
    unfold up1
    by_cases z : q = p
    · rw [if_pos z, if_pos z, hv]
    · rw [if_neg z, if_neg z, hs q q0 q1]
  unfold lst
  rw [← a1.2, ← a2.2]
  by_cases t : inT (I 11) (I 12) k = true
  · rw [if_pos t, if_pos t]
    by_cases c1 : ¬ σ.2 (I 11 k) = 0 ∧ σ.2 (I 12 k) = 0
    · rw [if_pos c1, if_pos c1]
      exact fun q q0 q1 => ⟨hup _ _ _ _ _ (by rw [a1.1]) (fun q q0 q1 => (h q q0 q1).1) q q0 q1, hup _ _ _ _ _ rfl (fun q q0 q1 => (h q q0 q1).2) q q0 q1⟩
    · rw [if_neg c1, if_neg c1]
      by_cases c2 : ¬ σ.2 (I 12 k) = 0 ∧ σ.2 (I 11 k) = 0
      · rw [if_pos c2, if_pos c2]
        exact fun q q0 q1 => ⟨hup _ _ _ _ _ (by rw [a2.1]) (fun q q0 q1 => (h q q0 q1).1) q q0 q1, hup _ _ _ _ _ rfl (fun q q0 q1 => (h q q0 q1).2) q q0 q1⟩
      · rw [if_neg c2, if_neg c2]; exact h
  · rw [if_neg t, if_neg t]; exact h
theorem lst_vl {σ : stT} {k : Int} (hG : RlG I) (hB : RlB I) (ht : 0 ≤ I 13 k ∧ I 13 k < I 4 0) (hk : 0 ≤ k ∧ k < I 10 1) (h : Vl (I 10 0) (I 4 0) σ) : Vl (I 10 0) (I 4 0) (lst I k σ) := by
  have b := (hB.2.2.1 k hk.1 hk.2).2
  have a1 := h _ b.1.1 b.1.2
  have a2 := h _ b.2.1 b.2.2
  have hup : ∀ (p v : Int), (0 ≤ v ∧ v < I 4 0) → Vl (I 10 0) (I 4 0) (up1 σ.1 p v, up1 σ.2 p 1) := fun p v hv q q0 q1 => by
    show (0 ≤ up1 σ.1 p v q ∧ up1 σ.1 p v q < I 4 0) ∧ (up1 σ.2 p 1 q = 0 ∨ up1 σ.2 p 1 q = 1)
    unfold up1
    by_cases z : q = p
    · rw [if_pos z, if_pos z]; exact ⟨hv, Or.inr rfl⟩
    · rw [if_neg z, if_neg z]; exact h q q0 q1
  unfold lst
  by_cases t : inT (I 11) (I 12) k = true
  · rw [if_pos t]
    by_cases c1 : ¬ σ.2 (I 11 k) = 0 ∧ σ.2 (I 12 k) = 0
    · rw [if_pos c1]; exact hup _ _ (hG.pr a1.1 ht)
    · rw [if_neg c1]
      by_cases c2 : ¬ σ.2 (I 12 k) = 0 ∧ σ.2 (I 11 k) = 0
      · rw [if_pos c2]; exact hup _ _ (hG.pr a2.1 (hG.bk ht))
      · rw [if_neg c2]; exact h
  · rw [if_neg t]; exact h
/-- what is reached stays so; behind a line of the tree both ends are reached, if one was -/
theorem lst_mono {σ : stT} {k : Int} : (∀ p, ¬ σ.2 p = 0 → ¬ (lst I k σ).2 p = 0) ∧ (inT (I 11) (I 12) k = true → (¬ σ.2 (I 11 k) = 0 ∨ ¬ σ.2 (I 12 k) = 0) → ¬ (lst I k σ).2 (I 11 k) = 0 ∧ ¬ (lst I k σ).2 (I 12 k) = 0) := by
  have hup : ∀ (p q : Int), ¬ σ.2 q = 0 → ¬ up1 σ.2 p 1 q = 0 := fun p q hq => by
    unfold up1
    by_cases z : q = p
    · rw [if_pos z]; decide
    · rw [if_neg z]; exact hq
  unfold lst
  by_cases t : inT (I 11) (I 12) k = true
  · rw [if_pos t]
    by_cases c1 : ¬ σ.2 (I 11 k) = 0 ∧ σ.2 (I 12 k) = 0
    · rw [if_pos c1]
      exact ⟨fun p hp => hup _ _ hp, fun _ _ => ⟨hup _ _ c1.1, by show ¬ up1 σ.2 (I 12 k) 1 (I 12 k) = 0; rw [up1_eq]; decide⟩⟩
    · rw [if_neg c1]
      by_cases c2 : ¬ σ.2 (I 12 k) = 0 ∧ σ.2 (I 11 k) = 0
      · rw [if_pos c2]
        exact ⟨fun p hp => hup _ _ hp, fun _ _ => ⟨by show ¬ up1 σ.2 (I 11 k) 1 (I 11 k) = 0; rw [up1_eq]; decide, hup _ _ c2.1⟩⟩
      · rw [if_neg c2]
        exact ⟨fun _ hp => hp, fun _ ho => ⟨fun z => ho.elim (fun q => q z) (fun q => c2 ⟨q, z⟩), fun z => ho.elim (fun q => c1 ⟨q, z⟩) (fun q => q z)⟩⟩
  · rw [if_neg t]; exact ⟨fun _ hp => hp, fun q => absurd q t⟩
theorem rl_mono {σ : stT} : ∀ (k : Nat), (∀ p, ¬ σ.2 p = 0 → ¬ (rl I σ k).2 p = 0) ∧ ∀ j : Nat, j < k → inT (I 11) (I 12) j = true → (¬ σ.2 (I 11 j) = 0 ∨ ¬ σ.2 (I 12 j) = 0) → ¬ (rl I σ k).2 (I 11 j) = 0 ∧ ¬ (rl I σ k).2 (I 12 j) = 0
  | 0 => ⟨fun _ h => h, fun j hj => by omega⟩
  | k + 1 => by
    have ih := rl_mono (σ := σ) k
    have m := lst_mono (I := I) (σ := rl I σ k) (k := k)
    refine ⟨fun p hp => m.1 p (ih.1 p hp), fun j hj hi ho => ?_⟩
    by_cases z : j = k
    · subst z
      exact m.2 hi (ho.elim (fun q => Or.inl (ih.1 _ q)) (fun q => Or.inr (ih.1 _ q)))
    · have := ih.2 j (by omega) hi ho
      exact ⟨m.1 _ this.1, m.1 _ this.2⟩
theorem rr_mono {σ : stT} : ∀ (r : Nat) (p : Int), ¬ σ.2 p = 0 → ¬ (rr I σ r).2 p = 0
  | 0, _, h => h
  | r + 1, p, h => (rl_mono (I := I) (I 10 1).toNat).1 p (rr_mono r p h)
/-- a set that the tree's lines do not leave holds whole parts -/
theorem pt_clos {f t : Int → Int} {S : Int → Prop} : ∀ (j : Nat), (∀ k : Nat, k < j → inT f t k = true → (S (f k) ↔ S (t k))) → ∀ p, S p ↔ S (pt f t j p)
  | 0, _, _ => Iff.rfl
  | j + 1, h, p => by
    have ih := pt_clos (f := f) (t := t) (S := S) j (fun k hk => h k (by omega))
    have ab : S (pt f t j (f j)) ↔ S (pt f t j (t j)) := by
      by_cases z : pt f t j (f j) = pt f t j (t j)
      · rw [z]
      · have hi : inT f t j = true := by unfold inT; rw [Int.toNat_natCast]; exact decide_eq_true z
        rw [← ih (f j), ← ih (t j)]
        exact h j (by omega) hi
    rw [ih p]
    by_cases q : pt f t j p = pt f t j (f j) ∨ pt f t j p = pt f t j (t j)
    · have e : pt f t (j + 1) p = min (pt f t j (f j)) (pt f t j (t j)) := if_pos q
      rw [e]
      have hm : min (pt f t j (f j)) (pt f t j (t j)) = pt f t j (f j) ∨ min (pt f t j (f j)) (pt f t j (t j)) = pt f t j (t j) := by omega
      rcases hm with hm | hm <;> rw [hm] <;> rcases q with q | q <;> rw [q]
      · exact ab.symm
      · exact ab
    · have e : pt f t (j + 1) p = pt f t j p := if_neg q
      rw [e]
theorem pt_idem {f t : Int → Int} : ∀ (j : Nat) (p : Int), pt f t j (pt f t j p) = pt f t j p
  | 0, _ => rfl
  | j + 1, p => by
    have ih := pt_idem (f := f) (t := t) j
    by_cases q : pt f t j p = pt f t j (f j) ∨ pt f t j p = pt f t j (t j)
    · have e : pt f t (j + 1) p = min (pt f t j (f j)) (pt f t j (t j)) := if_pos q
      rw [e]
      have hm : min (pt f t j (f j)) (pt f t j (t j)) = pt f t j (f j) ∨ min (pt f t j (f j)) (pt f t j (t j)) = pt f t j (t j) := by omega
      generalize hM : min (pt f t j (f j)) (pt f t j (t j)) = M at hm ⊢
      have : pt f t j M = pt f t j (f j) ∨ pt f t j M = pt f t j (t j) := by
        rcases hm with hm | hm
        · exact Or.inl (by rw [hm]; exact ih _)
        · exact Or.inr (by rw [hm]; exact ih _)
      show (if _ then _ else _) = _
      rw [if_pos this]; exact hM
    · have e : pt f t (j + 1) p = pt f t j p := if_neg q
      rw [e]
      show (if _ then _ else _) = _
      rw [ih p, if_neg q]
/-- how many are not reached falls, if one falls away and none comes -/
theorem cn_lt {p q : Int → Bool} : ∀ {k : Nat}, (∀ i : Nat, i < k → q i = true → p i = true) → cn q k ≤ cn p k ∧ ((∃ i : Nat, i < k ∧ p i = true ∧ q i = false) → cn q k + 1 ≤ cn p k)
  | 0, _ => ⟨Int.le_refl _, fun ⟨i, h, _⟩ => by omega⟩
  | k + 1, h => by
    have ih := cn_lt (p := p) (q := q) (k := k) (fun i hi => h i (by omega))
    have hk := h k (by omega)
    have e1 : cn q (k + 1) = cn q k + (bif q k then 1 else 0) := rfl
    have e2 : cn p (k + 1) = cn p k + (bif p k then 1 else 0) := rfl
    refine ⟨?_, fun ⟨i, h1, h2, h3⟩ => ?_⟩
    · rw [e1, e2]
      cases hq : q k with
      | true => rw [hk hq]; simp only [cond_true]; omega
      | false => cases p k <;> simp only [cond_true, cond_false] <;> omega
    · rw [e1, e2]
      by_cases z : i = k
      · subst z
        rw [h2, h3]
        simp only [cond_true, cond_false]
        omega
      · have := ih.2 ⟨i, by omega, h2, h3⟩
        cases hq : q k with
        | true => rw [hk hq]; simp only [cond_true]; omega
        | false => cases p k <;> simp only [cond_true, cond_false] <;> omega
/-- at the start: the least point of each part is reached -/
def st0 (I : pm_I) : stT := (fun _ => 0, fun p => if pt (I 11) (I 12) (I 10 1).toNat p = p then 1 else 0)
def unr (I : pm_I) (σ : stT) : Int := cn (fun p => decide (σ.2 p = 0)) (I 10 0).toNat
theorem rr_unr (hB : RlB I) : ∀ (r : Nat), unr I (rr I (st0 I) r) = 0 ∨ unr I (rr I (st0 I) r) + r ≤ unr I (st0 I)
  | 0 => Or.inr (by show unr I (st0 I) + ((0 : Nat) : Int) ≤ _; omega)
  | r + 1 => by
    have pb := hB.1
    have l := hB.2.1
    have ih := rr_unr hB r
    have mon := rl_mono (I := I) (σ := rr I (st0 I) r) (I 10 1).toNat
    have hle := cn_lt (p := fun p => decide ((rr I (st0 I) r).2 p = 0)) (q := fun p => decide ((rr I (st0 I) (r + 1)).2 p = 0)) (k := (I 10 0).toNat) (fun i _ hq => by
      by_cases z : (rr I (st0 I) r).2 i = 0
      · exact decide_eq_true z
      · exact absurd (of_decide_eq_true hq) (mon.1 _ z))
    have c0 := cn_r (fun p => decide ((rr I (st0 I) r).2 p = 0)) (I 10 0).toNat
    have c1 := cn_r (fun p => decide ((rr I (st0 I) (r + 1)).2 p = 0)) (I 10 0).toNat
    by_cases hz : unr I (rr I (st0 I) r) = 0
    · left
      unfold unr at hz ⊢
      omega
    · -- some point is not reached: some line of the tree has one end reached alone
      have hx : ∃ i : Nat, i < (I 10 0).toNat ∧ (rr I (st0 I) r).2 i = 0 := by
        by_cases q : ∃ i : Nat, i < (I 10 0).toNat ∧ (rr I (st0 I) r).2 i = 0
        · exact q
        · exfalso
          apply hz
          unfold unr
          have : cn (fun p => decide ((rr I (st0 I) r).2 p = 0)) (I 10 0).toNat = cn (fun _ => false) (I 10 0).toNat := cn_congr (fun i hi => decide_eq_false (fun e => q ⟨i, hi, e⟩))
          rw [this]
          have zero : ∀ k : Nat, cn (fun _ => false) k = 0 := fun k => by
            induction k with
            | zero => rfl
            | succ k ih => show cn (fun _ => false) k + 0 = 0; rw [ih]; rfl
          exact zero _
      obtain ⟨i, i1, i2⟩ := hx
      have hline : ∃ k : Nat, k < (I 10 1).toNat ∧ inT (I 11) (I 12) k = true ∧ ¬ ((rr I (st0 I) r).2 (I 11 k) = 0 ↔ (rr I (st0 I) r).2 (I 12 k) = 0) := by
        by_cases q : ∃ k : Nat, k < (I 10 1).toNat ∧ inT (I 11) (I 12) k = true ∧ ¬ ((rr I (st0 I) r).2 (I 11 k) = 0 ↔ (rr I (st0 I) r).2 (I 12 k) = 0)
        · exact q
        · exfalso
          have cl := pt_clos (f := I 11) (t := I 12) (S := fun p => (rr I (st0 I) r).2 p = 0) (I 10 1).toNat (fun k hk hi => by
            by_cases y : ((rr I (st0 I) r).2 (I 11 k) = 0 ↔ (rr I (st0 I) r).2 (I 12 k) = 0)
            · exact y
            · exact absurd ⟨k, hk, hi, y⟩ q) i
          have h0 := cl.mp i2
          refine rr_mono (I := I) (σ := st0 I) r (pt (I 11) (I 12) (I 10 1).toNat i) ?_ h0
          show ¬ (if pt (I 11) (I 12) (I 10 1).toNat (pt (I 11) (I 12) (I 10 1).toNat i) = pt (I 11) (I 12) (I 10 1).toNat i then (1 : Int) else 0) = 0
          rw [if_pos (pt_idem _ _)]
          decide
      obtain ⟨k, k1, k2, k3⟩ := hline
      have b := (hB.2.2.1 k (by omega) (by omega)).2
      have ex : ∃ j : Nat, j < (I 10 0).toNat ∧ decide ((rr I (st0 I) r).2 j = 0) = true ∧ decide ((rr I (st0 I) (r + 1)).2 j = 0) = false := by
        by_cases y : (rr I (st0 I) r).2 (I 11 k) = 0
        · have y2 : ¬ (rr I (st0 I) r).2 (I 12 k) = 0 := fun z => k3 ⟨fun _ => z, fun _ => y⟩
          have m := mon.2 k k1 k2 (Or.inr y2)
          refine ⟨(I 11 k).toNat, by omega, ?_, ?_⟩
          · rw [show (((I 11 k).toNat : Nat) : Int) = I 11 k by omega]; exact decide_eq_true y
          · rw [show (((I 11 k).toNat : Nat) : Int) = I 11 k by omega]; exact decide_eq_false m.1
        · have y2 : (rr I (st0 I) r).2 (I 12 k) = 0 := by
            by_cases z : (rr I (st0 I) r).2 (I 12 k) = 0
            · exact z
            · exact absurd ⟨fun q => absurd q y, fun q => absurd q z⟩ k3
          have m := mon.2 k k1 k2 (Or.inl y)
          refine ⟨(I 12 k).toNat, by omega, ?_, ?_⟩
          · rw [show (((I 12 k).toNat : Nat) : Int) = I 12 k by omega]; exact decide_eq_true y2
          · rw [show (((I 12 k).toNat : Nat) : Int) = I 12 k by omega]; exact decide_eq_false m.2
      have dec := hle.2 ex
      rcases ih with ih | ih
      · exact absurd ih hz
      · right
        unfold unr at ih ⊢
        omega
theorem cn_all0 {p : Int → Bool} : ∀ {k : Nat}, cn p k = 0 → ∀ i : Nat, i < k → p i = false
  | 0, _, i, hi => by omega
  | k + 1, h, i, hi => by
    have c := cn_r p k
    have e : cn p (k + 1) = cn p k + (bif p k then 1 else 0) := rfl
    have hk : p k = false := by
      cases hq : p k with
      | false => rfl
      | true => rw [e, hq] at h; simp only [cond_true] at h; omega
    rw [e, hk] at h
    by_cases z : i = k
    · rw [z]; exact hk
    · exact cn_all0 (k := k) (by simp only [cond_false] at h; omega) i (by omega)
/-- behind points - 1 rounds nothing changes any more -/
theorem rr_fix (hB : RlB I) (r : Nat) (hr : I 10 0 ≤ r + 1) : rr I (st0 I) (r + 1) = rr I (st0 I) r := by
  have pb := hB.1
  have l := hB.2.1
  have u0 : unr I (rr I (st0 I) r) = 0 := by
    rcases rr_unr hB r with h | h
    · exact h
    · have c := cn_r (fun p => decide ((rr I (st0 I) r).2 p = 0)) (I 10 0).toNat
      by_cases hp : I 10 0 = 0
      · unfold unr; rw [hp]; rfl
      · -- point 0 is reached at once
        have first : ∀ k : Nat, 1 ≤ k → cn (fun p => decide ((st0 I).2 p = 0)) k + 1 ≤ k := fun k => by
          induction k with
          | zero => intro h; omega
          | succ k ih =>
            intro _
            have e : cn (fun p => decide ((st0 I).2 p = 0)) (k + 1) = cn (fun p => decide ((st0 I).2 p = 0)) k + (bif decide ((st0 I).2 (k : Int) = 0) then 1 else 0) := rfl
            rw [e]
            by_cases z : k = 0
            · subst z
              have p0 : pt (I 11) (I 12) (I 10 1).toNat 0 = 0 := by
                have := (pt_r (f := I 11) (t := I 12) (n := I 10 0) (j := (I 10 1).toNat) (fun i hi => (hB.2.2.1 i (by omega) (by omega)).2) 0 (Int.le_refl 0)).1
                omega
              have : (st0 I).2 ((0 : Nat) : Int) = 1 := by
                show (if pt (I 11) (I 12) (I 10 1).toNat ((0 : Nat) : Int) = ((0 : Nat) : Int) then (1 : Int) else 0) = 1
                exact if_pos p0
              rw [this]
              show (0 : Int) + (bif decide ((1 : Int) = 0) then 1 else 0) + 1 ≤ _
              decide
            · have := ih (by omega)
              cases decide ((st0 I).2 (k : Int) = 0) <;> simp only [cond_true, cond_false] <;> omega
        have := first (I 10 0).toNat (by omega)
        unfold unr at h ⊢
        omega
  have all : ∀ p, 0 ≤ p → p < I 10 0 → ¬ (rr I (st0 I) r).2 p = 0 := fun p p0 p1 => by
    have := cn_all0 u0 p.toNat (by omega)
    rw [show ((p.toNat : Nat) : Int) = p by omega] at this
    exact of_decide_eq_false this
  have id1 : ∀ k : Nat, (k : Int) ≤ I 10 1 → rl I (rr I (st0 I) r) k = rr I (st0 I) r := fun k => by
    induction k with
    | zero => intro _; rfl
    | succ k ih =>
      intro hk
      show lst I k (rl I (rr I (st0 I) r) k) = _
      rw [ih (by omega)]
      have b := (hB.2.2.1 k (by omega) (by omega)).2
      have a1 := all _ b.1.1 b.1.2
      have a2 := all _ b.2.1 b.2.2
      unfold lst
      by_cases t : inT (I 11) (I 12) k = true
      · rw [if_pos t, if_neg (fun q => a2 q.2), if_neg (fun q => a1 q.2)]
      · rw [if_neg t]
  exact id1 (I 10 1).toNat (by omega)
theorem rr_fix6 (hB : RlB I) : ∀ d : Nat, rr I (st0 I) ((I 10 0 - 1).toNat + d) = rr I (st0 I) (I 10 0 - 1).toNat
  | 0 => rfl
  | d + 1 => by
    have := rr_fix hB ((I 10 0 - 1).toNat + d) (by omega)
    rw [show (I 10 0 - 1).toNat + (d + 1) = (I 10 0 - 1).toNat + d + 1 by omega, this]
    exact rr_fix6 hB d
end STL
