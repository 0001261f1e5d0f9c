section OPU
variable {X : pm_XT} {I : pm_I}
theorem A_giveBack (h0 : 0 < I 43 0 ∧ I 43 0 ≤ 8) (h1 : 0 ≤ I 43 1 ∧ I 43 1 < 8) : ∃ J, f_A_giveBack X I = some (1, J) ∧ fr [13, 43] I J ∧ (∀ k, 0 ≤ k → k < 10 → J 13 k = I (45 + ((I 43 1 - 1) % 8).toNat) k) ∧ J 43 0 = I 43 0 - 1 ∧ J 43 1 = (I 43 1 - 1) % 8 := by
  have hv : ∀ v : Int, v = (I 43 1 - 1) % 8 → pm_R 44 v.toNat = 45 + v.toNat ∧ pm_kd (45 + v.toNat) = 8 ∧ pm_ln X.2 (45 + v.toNat) = 10 := fun v e => ⟨(c_ac (by omega)).1, (c_ac (by omega)).2, c_acl X.2 (by omega)⟩
  have core : ∀ v : Int, v = (I 43 1 - 1) % 8 → (if 0 ≤ v ∧ v < 8 then bif true && true && true && Nat.beq (pm_kd (pm_R 44 v.toNat)) 8 then (if (0 : Int) + 10 ≤ pm_ln X.2 (pm_R 44 v.toNat) then (if pm_r32 ((pm_cp (pm_up I 43 1 v) (pm_R 44 v.toNat) 0 13 0 10) 43 0 - 1) then some ((1 : Int), pm_up (pm_cp (pm_up I 43 1 v) (pm_R 44 v.toNat) 0 13 0 10) 43 0 ((pm_cp (pm_up I 43 1 v) (pm_R 44 v.toNat) 0 13 0 10) 43 0 - 1)) else none) else none) else none else none) = some (1, pm_up (pm_cp (pm_up I 43 1 v) (45 + v.toNat) 0 13 0 10) 43 0 (I 43 0 - 1)) := fun v e => by
    obtain ⟨a, b, c⟩ := hv v e
    rw [if_pos (by omega), a, b, c, cp_rw _ (by decide), up_ne _ (by decide)]
    simp only [show Nat.beq 8 8 = true from rfl, Bool.and_self, cond_true]
    rw [if_pos (by omega), if_pos (by omega)]
  have fin : ∀ v : Int, v = (I 43 1 - 1) % 8 → ∃ J, some ((1 : Int), pm_up (pm_cp (pm_up I 43 1 v) (45 + v.toNat) 0 13 0 10) 43 0 (I 43 0 - 1)) = some (1, J) ∧ fr [13, 43] I J ∧ (∀ k, 0 ≤ k → k < 10 → J 13 k = I (45 + ((I 43 1 - 1) % 8).toNat) k) ∧ J 43 0 = I 43 0 - 1 ∧ J 43 1 = (I 43 1 - 1) % 8 := fun v e => by
    refine ⟨_, rfl, ?_, fun k k0 k1 => ?_, up_eq _ _ _ _, ?_⟩
    · refine fr.up (fun r hr => ?_) (by decide)
      simp at hr
      rw [cp_rw _ hr.1, up_rw _ hr.2]
    · rw [up_rw _ (by decide), cp_at, if_pos (by omega), up_rw _ (by omega), e]
      congr 1
      omega
    · rw [up_ne _ (by decide), cp_rw _ (by decide), up_eq, e]
  rw [e_A_giveBack, if_pos h0.1]
  simp only [up_eq]
  by_cases q : 0 < I 43 1
  · rw [if_pos q, if_pos (by omega), core (I 43 1 - 1) (by omega)]
    exact fin _ (by omega)
  · rw [if_neg q, core 7 (by omega)]
    exact fin _ (by omega)
theorem ok_undo (h : Rl I) : Ok (f_T_undo X) (f_M_undo X) I := by
  obtain ⟨hG, hB, hT, hW, hS, hV⟩ := id h
  obtain ⟨t1, ⟨t2, t3, t4⟩, t5⟩ := id hT
  by_cases q : 0 < I 43 0
  · obtain ⟨J, j1, j2, j3, j4, j5⟩ := A_giveBack (X := X) ⟨q, t2.2⟩ t4
    have oJ : ∀ r, r ≠ 13 → r ≠ 43 → J r = I r := fun r h1 h2 => j2 r (by simp [h1, h2])
    have J77 : J 77 = I 77 := oJ 77 (by decide) (by decide)
    obtain ⟨K, g1, g2, g3, g4⟩ := pl_loop (fun i (K : pm_I) => f_M_undo_22 X i K) 10 (fun i K => 0 ≤ i ∧ fr [82] (pm_up J 77 14 (I 43 0 - 1)) K ∧ ∀ k, 0 ≤ k → k < i → K 82 k = I 88 (10 * (I 43 0 - 1) + k)) (fun i K hi hp => by
      obtain ⟨p0, p1, p2⟩ := hp
      have k77 : K 77 14 = I 43 0 - 1 := by rw [p1 77 (by decide), up_eq]
      have k88 : K 88 = I 88 := by rw [p1 88 (by decide), up_rw _ (by decide), oJ 88 (by decide) (by decide)]
      show ∃ s', f_M_undo_22 X i K = f_M_undo_22 X (i + 1) s' ∧ _
      rw [e_M_undo_22, k77, k88, if_pos hi, if_pos (by omega), if_pos (by omega), if_pos (by omega), if_pos (by omega), if_pos (by omega)]
      refine ⟨_, rfl, by omega, p1.up (by decide), fun k k0 k1 => ?_⟩
      rw [up_at]
      by_cases z : k = i
      · rw [if_pos z, z]
      · rw [if_neg z]; exact p2 k k0 (by omega)) (i := 0) (s := pm_up J 77 14 (I 43 0 - 1)) (by omega) ⟨Int.le_refl 0, fr.rf _ _, fun k k0 k1 => by omega⟩
    have oK : ∀ r, r ≠ 82 → r ≠ 77 → K r = J r := fun r h1 h2 => by rw [g3 r (by simp [h1]), up_rw _ h2]
    have K77 : ∀ j, K 77 j = if j = 14 then I 43 0 - 1 else I 77 j := fun j => by rw [g3 77 (by decide), up_at, J77]
    refine ⟨I 43 0 - 1, J, K, ?_, ?_, ?_⟩
    · rw [e_T_undo, j1]
      simp only [Option.bind_some]
      rw [if_neg (by decide), j4]
    · rw [e_M_undo, J77, t3, if_neg (by omega), if_pos (by omega)]
      refine g1.trans ?_
      show f_M_undo_22 X 10 K = _
      rw [e_M_undo_22, if_neg (by omega), K77, if_pos rfl]
    · have f : fr [13, 43, 45, 46, 47, 48, 49, 50, 51, 52, 77, 82, 88, 16, 17, 94, 95, 96, 97, 98] I K := (j2.mono (by decide)).tr (((fr.rf _ J).up (by decide)).tr (g3.mono (by decide)))
      refine h.turns f (fun j hj => by rw [K77, if_neg hj]) ⟨fun k k0 k1 => ?_, ?_, fun i k i0 i1 k0 k1 => ?_⟩
      · have a := t5 (I 43 0 - 1) k (by omega) (by omega) k0 k1
        have er : arow I (I 43 0 - 1) = 45 + ((I 43 1 - 1) % 8).toNat := by unfold arow; congr 3; omega
        rw [er] at a
        rw [g4 k k0 k1, oK 13 (by decide) (by decide), j3 k k0 k1, f 4 (by decide), f 10 (by decide), a.1]
        exact ⟨rfl, a.2⟩
      · rw [oK 43 (by decide) (by decide), j4, j5, K77, if_pos rfl]
        omega
      · rw [oK 43 (by decide) (by decide), j4] at i1
        have er : arow K i = arow I i := by unfold arow; rw [oK 43 (by decide) (by decide), j4, j5]; omega
        have hr : 45 ≤ arow I i ∧ arow I i < 53 := by unfold arow; omega
        rw [er, oK _ (by omega) (by omega), oJ _ (by omega) (by omega), oK 88 (by decide) (by decide), oJ 88 (by decide) (by decide), f 4 (by decide), f 10 (by decide)]
        exact t5 i k i0 (by omega) k0 k1
  · refine ⟨-4, I, I, ?_, ?_, h⟩
    · rw [e_T_undo, e_A_giveBack, if_neg q]
      rfl
    · rw [e_M_undo, t3, if_pos (by omega)]
theorem B_shiftOnly {p a : Int} (hp : 0 ≤ I 10 0 ∧ I 10 0 ≤ 6) : ∃ J, f_B_shiftOnly X p a I = some (0, J) ∧ fr [16] I J ∧ ∀ q, 0 ≤ q → q < I 10 0 → J 16 q = if q = p then a else 0 := by
  obtain ⟨J, h1, h2, h3, h4⟩ := pl_loop (fun i (J : pm_I) => f_B_shiftOnly_2 X p a i J) (I 10 0) (fun i J => 0 ≤ i ∧ fr [16] I J ∧ ∀ q, 0 ≤ q → q < i → J 16 q = if q = p then a else 0) (fun i J hi hp => by
    obtain ⟨p0, p1, p2⟩ := hp
    have e : J 10 = I 10 := p1 10 (by decide)
    show ∃ s', f_B_shiftOnly_2 X p a i J = f_B_shiftOnly_2 X p a (i + 1) s' ∧ _
    rw [e_B_shiftOnly_2, e, if_pos hi]
    by_cases z : i = p
    · rw [if_pos z, if_pos (by omega), if_pos (by omega)]
      refine ⟨_, rfl, by omega, p1.up (by decide), fun q q0 q1 => ?_⟩
      rw [up_at]
      by_cases y : q = i
      · rw [if_pos y, if_pos (by omega)]
      · rw [if_neg y]; exact p2 q q0 (by omega)
    · rw [if_neg z, if_pos (by omega), if_pos (by omega)]
      refine ⟨_, rfl, by omega, p1.up (by decide), fun q q0 q1 => ?_⟩
      rw [up_at]
      by_cases y : q = i
      · rw [if_pos y, if_neg (by omega)]
      · rw [if_neg y]; exact p2 q q0 (by omega)) (i := 0) (s := I) hp.1 ⟨Int.le_refl 0, fr.rf _ _, fun q q0 q1 => by omega⟩
  refine ⟨J, ?_, h3, h4⟩
  rw [e_B_shiftOnly]
  refine h1.trans ?_
  show f_B_shiftOnly_2 X p a (I 10 0) J = _
  rw [e_B_shiftOnly_2, h3 10 (by decide), if_neg (by omega)]
/-- the turn of line k, once the points are turned by s -/
def tpv (I : pm_I) (s t : Int → Int) (k : Int) : Int := gP I (gP I (s (I 11 k)) (t k)) (I 7 (s (I 12 k)))
theorem tpv_r (hG : RlG I) (hB : RlB I) {s t : Int → Int} (hs : ∀ p, 0 ≤ p → p < I 10 0 → 0 ≤ s p ∧ s p < I 4 0) {k : Int} (hk : 0 ≤ k ∧ k < I 10 1) (ht : 0 ≤ t k ∧ t k < I 4 0) : (0 ≤ gP I (s (I 11 k)) (t k) ∧ gP I (s (I 11 k)) (t k) < I 4 0) ∧ 0 ≤ tpv I s t k ∧ tpv I s t k < I 4 0 := by
  have b := hB.2.2.1 k hk.1 hk.2
  have s1 := hs _ b.2.1.1 b.2.1.2
  have s2 := hs _ b.2.2.1 b.2.2.2
  have p1 := hG.pr s1 ht
  exact ⟨p1, hG.pr p1 (hG.bk s2)⟩
theorem B_turnPoints (hG : RlG I) (hB : RlB I) (hs : ∀ p, 0 ≤ p → p < I 10 0 → 0 ≤ I 16 p ∧ I 16 p < I 4 0) (ht : ∀ k, 0 ≤ k → k < I 10 1 → 0 ≤ I 13 k ∧ I 13 k < I 4 0) : ∃ J, f_B_turnPoints X I = some (cn (fun k => decide (¬ tpv I (I 16) (I 13) k = I 13 k)) (I 10 1).toNat, J) ∧ fr [13] I J ∧ ∀ k, J 13 k = if 0 ≤ k ∧ k < I 10 1 then tpv I (I 16) (I 13) k else I 13 k := by
  have l := hB.2.1
  have pb := hB.1
  have hn := hG.n
  obtain ⟨⟨c, J⟩, h1, h2, h3, h4, h5⟩ := pl_loop (fun i (s : Int × pm_I) => f_B_turnPoints_4 X s.1 i s.2) (I 10 1) (fun i s => 0 ≤ i ∧ s.1 = cn (fun k => decide (¬ tpv I (I 16) (I 13) k = I 13 k)) i.toNat ∧ fr [13] I s.2 ∧ ∀ k, s.2 13 k = if 0 ≤ k ∧ k < i then tpv I (I 16) (I 13) k else I 13 k) (fun i s hi hp => by
    obtain ⟨c, J⟩ := s
    obtain ⟨p0, p1, p2, p3⟩ := hp
    have p1 : c = cn (fun k => decide (¬ tpv I (I 16) (I 13) k = I 13 k)) i.toNat := p1
    have p2 : fr [13] I J := p2
    have p3 : ∀ k, J 13 k = if 0 ≤ k ∧ k < i then tpv I (I 16) (I 13) k else I 13 k := p3
    have hc := cn_r (fun k => decide (¬ tpv I (I 16) (I 13) k = I 13 k)) i.toNat
    have o : ∀ r, r ≠ 13 → J r = I r := fun r hr => p2 r (by simp [hr])
    have ji : J 13 i = I 13 i := by rw [p3 i, if_neg (by omega)]
    have b := hB.2.2.1 i p0 hi
    have t1 := ht i p0 hi
    have s1 := hs _ b.2.1.1 b.2.1.2
    have s2 := hs _ b.2.2.1 b.2.2.2
    obtain ⟨r1, r2⟩ := tpv_r hG hB hs (k := i) ⟨p0, hi⟩ t1
    have r3 := hG.bk s2
    show ∃ s' : Int × pm_I, f_B_turnPoints_4 X c i J = f_B_turnPoints_4 X s'.1 (i + 1) s'.2 ∧ _
    rw [e_B_turnPoints_4, o 10 (by decide), o 11 (by decide), o 16 (by decide), ji, if_pos hi, if_pos (by omega), if_pos (by omega), if_pos (by omega), G_product (by omega) (by omega)]
    simp only [Option.bind_some, o 12 (by decide), o 16 (by decide), o 7 (by decide), o 6 (by decide)]
    rw [if_pos (by omega), if_pos (by omega), if_pos (by omega)]
    have e1 : f_G_product X (I 6 (8 * I 16 (I 11 i) + I 13 i)) (I 7 (I 16 (I 12 i))) J = some (tpv I (I 16) (I 13) i, J) := by
      have r9 : 0 ≤ I 6 (8 * I 16 (I 11 i) + I 13 i) ∧ I 6 (8 * I 16 (I 11 i) + I 13 i) < I 4 0 := r1
      rw [G_product (by omega) (by omega), o 6 (by decide)]
      rfl
    rw [e1]
    simp only [Option.bind_some, up_eq]
    rw [if_pos (by omega), if_pos (by omega)]
    have fin : ∀ v : Int, v = c + (if ¬ tpv I (I 16) (I 13) i = I 13 i then 1 else 0) → ∃ s' : Int × pm_I, f_B_turnPoints_4 X v (i + 1) (pm_up J 13 i (tpv I (I 16) (I 13) i)) = f_B_turnPoints_4 X s'.1 (i + 1) s'.2 ∧ 0 ≤ i + 1 ∧ s'.1 = cn (fun k => decide (¬ tpv I (I 16) (I 13) k = I 13 k)) (i + 1).toNat ∧ fr [13] I s'.2 ∧ ∀ k, s'.2 13 k = if 0 ≤ k ∧ k < i + 1 then tpv I (I 16) (I 13) k else I 13 k := fun v hv => by
      refine ⟨(v, _), rfl, by omega, ?_, p2.up (by decide), fun k => ?_⟩
      · show v = _
        rw [show (i + 1).toNat = i.toNat + 1 by omega]
        show v = cn (fun k => decide (¬ tpv I (I 16) (I 13) k = I 13 k)) i.toNat + (bif decide (¬ tpv I (I 16) (I 13) ((i.toNat : Nat) : Int) = I 13 ((i.toNat : Nat) : Int)) then 1 else 0)
        rw [bif_dec, show ((i.toNat : Nat) : Int) = i by omega, ← p1, hv]
      · show pm_up J 13 i (tpv I (I 16) (I 13) i) 13 k = _
        rw [up_at, p3 k]
        by_cases z : k = i
        · rw [if_pos z, if_pos (by omega), z]
        · rw [if_neg z]
          by_cases y : 0 ≤ k ∧ k < i
          · rw [if_pos y, if_pos (by omega)]
          · rw [if_neg y, if_neg (by omega)]
    by_cases q : tpv I (I 16) (I 13) i = I 13 i
    · rw [if_pos q, if_pos (by omega)]
      exact fin c (by rw [if_neg (fun w => w q)]; omega)
    · rw [if_neg q, if_pos (by omega), if_pos (by omega)]
      exact fin (c + 1) (by rw [if_pos q])) (i := 0) (s := (0, I)) l.1 ⟨Int.le_refl 0, rfl, fr.rf _ _, fun k => by rw [if_neg (by omega)]⟩
  refine ⟨J, ?_, h4, h5⟩
  rw [e_B_turnPoints]
  refine h1.trans ?_
  show f_B_turnPoints_4 X c (I 10 1) J = _
  have h3 : c = cn (fun k => decide (¬ tpv I (I 16) (I 13) k = I 13 k)) (I 10 1).toNat := h3
  rw [e_B_turnPoints_4, (show J 10 = I 10 from h4 10 (by decide)), if_neg (by omega), h3]
/-- the reference's: turned by row 95, the turns in row 82 -/
theorem M_turned (hG : RlG I) (hB : RlB I) (hs : ∀ p, 0 ≤ p → p < I 10 0 → 0 ≤ I 95 p ∧ I 95 p < I 4 0) (ht : ∀ k, 0 ≤ k → k < I 10 1 → 0 ≤ I 82 k ∧ I 82 k < I 4 0) : ∃ J, f_M_turned X I = some (cn (fun k => decide (¬ tpv I (I 95) (I 82) k = I 82 k)) (I 10 1).toNat, J) ∧ fr [82, 94] I J ∧ ∀ k, J 82 k = if 0 ≤ k ∧ k < I 10 1 then tpv I (I 95) (I 82) k else I 82 k := by
  have l := hB.2.1
  have pb := hB.1
  have hn := hG.n
  obtain ⟨L, l1, l2, l3⟩ := M_layBacks (X := X) hG
  obtain ⟨⟨c, J⟩, h1, h2, h3, h4, h5⟩ := pl_loop (fun i (s : Int × pm_I) => f_M_turned_8 X s.1 i s.2) (I 10 1) (fun i s => 0 ≤ i ∧ s.1 = cn (fun k => decide (¬ tpv I (I 95) (I 82) k = I 82 k)) i.toNat ∧ fr [82] L s.2 ∧ ∀ k, s.2 82 k = if 0 ≤ k ∧ k < i then tpv I (I 95) (I 82) k else I 82 k) (fun i s hi hp => by
    obtain ⟨c, J⟩ := s
    obtain ⟨p0, p1, p2, p3⟩ := hp
    have p1 : c = cn (fun k => decide (¬ tpv I (I 95) (I 82) k = I 82 k)) i.toNat := p1
    have p2 : fr [82] L J := p2
    have p3 : ∀ k, J 82 k = if 0 ≤ k ∧ k < i then tpv I (I 95) (I 82) k else I 82 k := p3
    have hc := cn_r (fun k => decide (¬ tpv I (I 95) (I 82) k = I 82 k)) i.toNat
    have o : ∀ r, r ≠ 82 → r ≠ 94 → J r = I r := fun r hr h2 => by rw [p2 r (by simp [hr]), l2 r (by simp [h2])]
    have j94 : ∀ a, 0 ≤ a → a < I 4 0 → J 94 a = I 7 a := fun a a0 a1 => by rw [p2 94 (by decide)]; exact l3 a a0 a1
    have ji : J 82 i = I 82 i := by rw [p3 i, if_neg (by omega)]
    have b := hB.2.2.1 i p0 hi
    have t1 := ht i p0 hi
    have s1 := hs _ b.2.1.1 b.2.1.2
    have s2 := hs _ b.2.2.1 b.2.2.2
    obtain ⟨r1, r2⟩ := tpv_r hG hB hs (k := i) ⟨p0, hi⟩ t1
    have r3 := hG.bk s2
    have tb := hG.2.2.1 _ _ s1.1 s1.2 t1.1 t1.2
    have tb2 := hG.2.2.1 _ _ r1.1 r1.2 r3.1 r3.2
    show ∃ s' : Int × pm_I, f_M_turned_8 X c i J = f_M_turned_8 X s'.1 (i + 1) s'.2 ∧ _
    rw [e_M_turned_8, o 77 (by decide) (by decide), l.2.2, o 80 (by decide) (by decide), o 95 (by decide) (by decide), b.1.1, ji, if_pos hi, if_pos (by omega), if_pos (by omega), if_pos (by omega), M_product (by omega) (by omega)]
    simp only [Option.bind_some, o 81 (by decide) (by decide), o 95 (by decide) (by decide), o 78 (by decide) (by decide), b.1.2, tb, j94 _ s2.1 s2.2]
    rw [if_pos (by omega), if_pos (by omega), if_pos (by omega)]
    have e1 : f_M_product X (I 6 (8 * I 95 (I 11 i) + I 82 i)) (I 7 (I 95 (I 12 i))) J = some (tpv I (I 95) (I 82) i, J) := by
      have r9 : 0 ≤ I 6 (8 * I 95 (I 11 i) + I 82 i) ∧ I 6 (8 * I 95 (I 11 i) + I 82 i) < I 4 0 := r1
      rw [M_product (by omega) (by omega), o 78 (by decide) (by decide)]
      exact congrArg (fun v => some (v, J)) tb2
    rw [e1]
    simp only [Option.bind_some, ji]
    rw [if_pos (by omega)]
    have fin : ∀ v : Int, v = c + (if ¬ tpv I (I 95) (I 82) i = I 82 i then 1 else 0) → ∃ s' : Int × pm_I, f_M_turned_8 X v (i + 1) (pm_up J 82 i (tpv I (I 95) (I 82) i)) = f_M_turned_8 X s'.1 (i + 1) s'.2 ∧ 0 ≤ i + 1 ∧ s'.1 = cn (fun k => decide (¬ tpv I (I 95) (I 82) k = I 82 k)) (i + 1).toNat ∧ fr [82] L s'.2 ∧ ∀ k, s'.2 82 k = if 0 ≤ k ∧ k < i + 1 then tpv I (I 95) (I 82) k else I 82 k := fun v hv => by
      refine ⟨(v, _), rfl, by omega, ?_, p2.up (by decide), fun k => ?_⟩
      · show v = _
        rw [show (i + 1).toNat = i.toNat + 1 by omega]
        show v = cn (fun k => decide (¬ tpv I (I 95) (I 82) k = I 82 k)) i.toNat + (bif decide (¬ tpv I (I 95) (I 82) ((i.toNat : Nat) : Int) = I 82 ((i.toNat : Nat) : Int)) then 1 else 0)
        rw [bif_dec, show ((i.toNat : Nat) : Int) = i by omega, ← p1, hv]
      · show pm_up J 82 i (tpv I (I 95) (I 82) i) 82 k = _
        rw [up_at, p3 k]
        by_cases z : k = i
        · rw [if_pos z, if_pos (by omega), z]
        · rw [if_neg z]
          by_cases y : 0 ≤ k ∧ k < i
          · rw [if_pos y, if_pos (by omega)]
          · rw [if_neg y, if_neg (by omega)]
    by_cases q : tpv I (I 95) (I 82) i = I 82 i
    · rw [if_pos q, if_pos (by omega), if_pos (by omega), if_pos (by omega)]
      exact fin _ (by rw [if_neg (fun w => w q)])
    · rw [if_neg q, if_pos (by omega), if_pos (by omega), if_pos (by omega)]
      exact fin (c + 1) (by rw [if_pos q])) (i := 0) (s := (0, L)) l.1 ⟨Int.le_refl 0, rfl, fr.rf _ _, fun k => by rw [if_neg (by omega)]; show L 82 k = I 82 k; rw [l2 82 (by decide)]⟩
  refine ⟨J, ?_, (l2.mono (by decide)).tr (h4.mono (by decide)), h5⟩
  rw [e_M_turned, l1]
  simp only [Option.bind_some]
  refine h1.trans ?_
  show f_M_turned_8 X c (I 10 1) J = _
  have h3 : c = cn (fun k => decide (¬ tpv I (I 95) (I 82) k = I 82 k)) (I 10 1).toNat := h3
  rw [e_M_turned_8, (show J 77 = L 77 from h4 77 (by decide)), l2 77 (by decide), l.2.2, if_neg (by omega), h3]
end OPU
