section OPV
variable {X : pm_XT} {I : pm_I}
/-- a change of the turns by twist or still: class keeps, turns its points by row 16; the reference keeps, turns by row 95 -/
theorem ok_turning (h : Rl I) {J1 J2 J3 M1 M2 : pm_I} {n1 : Int} (v : Int) (hv : v = I 43 1) (j2 : fr [43, 45 + v.toNat] I J1) (j3 : ∀ k, 0 ≤ k → k < 10 → J1 (45 + v.toNat) k = I 13 k) (j4 : J1 43 0 = min (I 43 0 + 1) 8) (j5 : J1 43 1 = (I 43 1 + 1) % 8)
    (a2 : fr [16, 17] J1 J2) (hs : ∀ p, 0 ≤ p → p < I 10 0 → 0 ≤ J2 16 p ∧ J2 16 p < I 4 0)
    (b1 : f_B_turnPoints X J2 = some (n1, J3))
    (m2 : fr [77, 88] J3 M1) (m3 : ∀ j, j ≠ 14 → M1 77 j = J3 77 j) (m4 : M1 77 14 = min (J3 77 14 + 1) 8) (m5 : ∀ i k, 0 ≤ i → i < min (J3 77 14 + 1) 8 → 0 ≤ k → k < 10 → M1 88 (10 * i + k) = if i = min (J3 77 14) 7 then J3 82 k else if J3 77 14 = 8 then J3 88 (10 * (i + 1) + k) else J3 88 (10 * i + k))
    (c2 : fr [94, 95, 96, 97, 98] M1 M2) (hs2 : ∀ p, 0 ≤ p → p < I 10 0 → M2 95 p = J2 16 p) : ∃ K, f_M_turned X M2 = some (n1, K) ∧ Rl K := by
  obtain ⟨hG, hB, hT, hW, hS, hV⟩ := id h
  obtain ⟨t1, ⟨t2, t3, t4⟩, t5⟩ := id hT
  have l := hB.2.1
  subst hv
  have oJ1 : ∀ r, r ≠ 43 → ¬ (45 ≤ r ∧ r < 53) → J1 r = I r := fun r h1 h2 => j2 r (by simp only [List.mem_cons, List.not_mem_nil, or_false]; omega)
  have oJ2 : ∀ r, r ≠ 43 → ¬ (45 ≤ r ∧ r < 53) → r ≠ 16 → r ≠ 17 → J2 r = I r := fun r h1 h2 h3 h4 => by rw [a2 r (by simp [h3, h4]), oJ1 r h1 h2]
  have hG2 : RlG J2 := hG.cg (by rw [oJ2 4 (by decide) (by omega) (by decide) (by decide)]) (oJ2 6 (by decide) (by omega) (by decide) (by decide)) (oJ2 7 (by decide) (by omega) (by decide) (by decide)) (oJ2 8 (by decide) (by omega) (by decide) (by decide)) (by rw [oJ2 77 (by decide) (by omega) (by decide) (by decide)]) (oJ2 78 (by decide) (by omega) (by decide) (by decide))
  have e10 := oJ2 10 (by decide) (by omega) (by decide) (by decide)
  have e4 := oJ2 4 (by decide) (by omega) (by decide) (by decide)
  have e77 := oJ2 77 (by decide) (by omega) (by decide) (by decide)
  have hB2 : RlB J2 := hB.cg (by rw [e10]) (by rw [e10]) (by rw [e10]) (by rw [e77]) (by rw [e77]) (oJ2 11 (by decide) (by omega) (by decide) (by decide)) (oJ2 12 (by decide) (by omega) (by decide) (by decide)) (oJ2 14 (by decide) (by omega) (by decide) (by decide)) (oJ2 15 (by decide) (by omega) (by decide) (by decide)) (oJ2 80 (by decide) (by omega) (by decide) (by decide)) (oJ2 81 (by decide) (by omega) (by decide) (by decide))
  have e13 := oJ2 13 (by decide) (by omega) (by decide) (by decide)
  obtain ⟨J, b2, b3, b4⟩ := B_turnPoints (X := X) hG2 hB2 (fun p p0 p1 => by rw [e10] at p1; rw [e4]; exact hs p p0 p1) (fun k k0 k1 => by rw [e10] at k1; rw [e13, e4]; exact hT.t13 hB k k0 k1)
  rw [b1] at b2
  have b2 := Option.some.inj b2
  have hn1 : n1 = cn (fun k => decide (¬ tpv J2 (J2 16) (J2 13) k = J2 13 k)) (J2 10 1).toNat := congrArg Prod.fst b2
  have hJ : J3 = J := congrArg Prod.snd b2
  subst hJ
  have oJ3 : ∀ r, r ≠ 43 → ¬ (45 ≤ r ∧ r < 53) → r ≠ 16 → r ≠ 17 → r ≠ 13 → J3 r = I r := fun r h1 h2 h3 h4 h5 => by rw [b3 r (by simp [h5]), oJ2 r h1 h2 h3 h4]
  have oM2 : ∀ r, r ≠ 77 → r ≠ 88 → r ∉ [94, 95, 96, 97, 98] → M2 r = J3 r := fun r h1 h2 h3 => by rw [c2 r h3, m2 r (by simp [h1, h2])]
  have k77 : ∀ j, j ≠ 14 → M2 77 j = I 77 j := fun j hj => by rw [c2 77 (by decide), m3 j hj, oJ3 77 (by decide) (by omega) (by decide) (by decide) (by decide)]
  have o : ∀ r, r ≠ 43 → ¬ (45 ≤ r ∧ r < 53) → r ≠ 16 → r ≠ 17 → r ≠ 13 → r ≠ 77 → r ≠ 88 → r ∉ [94, 95, 96, 97, 98] → M2 r = I r := fun r h1 h2 h3 h4 h5 h6 h7 h8 => by rw [oM2 r h6 h7 h8, oJ3 r h1 h2 h3 h4 h5]
  have x4 := o 4 (by decide) (by omega) (by decide) (by decide) (by decide) (by decide) (by decide) (by decide)
  have x6 := o 6 (by decide) (by omega) (by decide) (by decide) (by decide) (by decide) (by decide) (by decide)
  have x7 := o 7 (by decide) (by omega) (by decide) (by decide) (by decide) (by decide) (by decide) (by decide)
  have x10 := o 10 (by decide) (by omega) (by decide) (by decide) (by decide) (by decide) (by decide) (by decide)
  have x11 := o 11 (by decide) (by omega) (by decide) (by decide) (by decide) (by decide) (by decide) (by decide)
  have x12 := o 12 (by decide) (by omega) (by decide) (by decide) (by decide) (by decide) (by decide) (by decide)
  have x82 := o 82 (by decide) (by omega) (by decide) (by decide) (by decide) (by decide) (by decide) (by decide)
  have hGM : RlG M2 := hG.cg (by rw [x4]) x6 x7 (o 8 (by decide) (by omega) (by decide) (by decide) (by decide) (by decide) (by decide) (by decide)) (k77 0 (by decide)) (o 78 (by decide) (by omega) (by decide) (by decide) (by decide) (by decide) (by decide) (by decide))
  have hBM : RlB M2 := hB.cg (by rw [x10]) (by rw [x10]) (by rw [x10]) (k77 3 (by decide)) (k77 4 (by decide)) x11 x12 (o 14 (by decide) (by omega) (by decide) (by decide) (by decide) (by decide) (by decide) (by decide)) (o 15 (by decide) (by omega) (by decide) (by decide) (by decide) (by decide) (by decide) (by decide)) (o 80 (by decide) (by omega) (by decide) (by decide) (by decide) (by decide) (by decide) (by decide)) (o 81 (by decide) (by omega) (by decide) (by decide) (by decide) (by decide) (by decide) (by decide))
  obtain ⟨K, d1, d2, d3⟩ := M_turned (X := X) hGM hBM (fun p p0 p1 => by rw [x10] at p1; rw [x4, hs2 p p0 p1]; exact hs p p0 p1) (fun k k0 k1 => by rw [x10] at k1; rw [x82, x4, (t1 k k0 (by omega)).1]; exact hT.t13 hB k k0 k1)
  -- the same turns
  have same : ∀ k, 0 ≤ k → k < I 10 1 → tpv M2 (M2 95) (M2 82) k = tpv J2 (J2 16) (J2 13) k ∧ M2 82 k = J2 13 k := fun k k0 k1 => by
    have b := hB.2.2.1 k k0 k1
    have q : M2 82 k = J2 13 k := by rw [x82, e13, (t1 k k0 (by omega)).1]
    refine ⟨?_, q⟩
    unfold tpv gP
    rw [x6, x7, x11, x12, oJ2 6 (by decide) (by omega) (by decide) (by decide), oJ2 7 (by decide) (by omega) (by decide) (by decide), oJ2 11 (by decide) (by omega) (by decide) (by decide), oJ2 12 (by decide) (by omega) (by decide) (by decide), q, hs2 _ b.2.1.1 b.2.1.2, hs2 _ b.2.2.1 b.2.2.2]
  have hcnt : cn (fun k => decide (¬ tpv M2 (M2 95) (M2 82) k = M2 82 k)) (M2 10 1).toNat = n1 := by
    rw [hn1, x10, e10]
    exact cn_congr (fun i hi => by
      have s := same i (by omega) (by omega)
      rw [s.1, s.2])
  rw [hcnt] at d1
  refine ⟨K, d1, ?_⟩
  have fA : fr [13, 43, 45, 46, 47, 48, 49, 50, 51, 52, 77, 82, 88, 16, 17, 94, 95, 96, 97, 98] I K :=
    ((((frA t4 j2).tr (a2.mono (by decide))).tr (b3.mono (by decide))).tr (m2.mono (by decide))).tr ((c2.mono (by decide)).tr (d2.mono (by decide)))
  have oK : ∀ r, r ≠ 82 → r ≠ 94 → K r = M2 r := fun r h1 h2 => d2 r (by simp [h1, h2])
  have K13 : K 13 = J3 13 := by rw [oK 13 (by decide) (by decide), oM2 13 (by decide) (by decide) (by decide)]
  have rK : ∀ r, 43 ≤ r → r < 53 → K r = J1 r := fun r h1 h2 => by rw [oK r (by omega) (by omega), oM2 r (by omega) (by omega) (by simp only [List.mem_cons, List.not_mem_nil, or_false]; omega), b3 r (by simp; omega), a2 r (by simp; omega)]
  have x88 : J3 88 = I 88 := oJ3 88 (by decide) (by omega) (by decide) (by decide) (by decide)
  have y82 : J3 82 = I 82 := oJ3 82 (by decide) (by omega) (by decide) (by decide) (by decide)
  have y77 : J3 77 = I 77 := oJ3 77 (by decide) (by omega) (by decide) (by decide) (by decide)
  refine h.turns fA (fun j hj => by rw [oK 77 (by decide) (by decide)]; exact k77 j hj) (hT.keep (by rw [fA 4 (by decide)]) (by rw [fA 10 (by decide)]) (fun k k0 k1 => ?_) (by rw [rK 43 (by omega) (by omega), j4]) (by rw [rK 43 (by omega) (by omega), j5]) (fun k k0 k1 => by rw [rK _ (by omega) (by omega)]; exact j3 k k0 k1) (fun r h1 h2 h3 => by rw [rK r (by omega) h2, j2 r (by simp only [List.mem_cons, List.not_mem_nil, or_false]; omega)]) (by rw [oK 77 (by decide) (by decide), c2 77 (by decide), m4, y77]) (fun i k i0 i1 k0 k1 => ?_))
  · rw [K13, b4 k, d3 k, fA 4 (by decide), fA 10 (by decide), x10, e10]
    by_cases z : 0 ≤ k ∧ k < I 10 1
    · rw [if_pos z, if_pos z, (same k z.1 z.2).1]
      have r := (tpv_r hG2 hB2 (s := J2 16) (t := J2 13) (fun p p0 p1 => by rw [e10] at p1; rw [e4]; exact hs p p0 p1) (k := k) (by rw [e10]; exact z) (by rw [e13, e4]; exact hT.t13 hB k z.1 z.2)).2
      rw [e4] at r
      exact ⟨rfl, r, fun q => by omega⟩
    · rw [if_neg z, if_neg z, x82, e13]
      exact t1 k k0 k1
  · have := m5 i k i0 (by rw [y77]; exact i1) k0 k1
    rw [y77, y82, x88] at this
    rw [oK 88 (by decide) (by decide), c2 88 (by decide)]
    exact this
theorem ok_twist (h : Rl I) {p a : Int} : Ok (f_T_twist X p a) (f_M_twist X p a) I := by
  obtain ⟨hG, hB, hT, hW, hS, hV⟩ := id h
  have pb := hB.1
  have hn := hG.n
  have e := hG.2.1
  have hTa := T_isPoint (X := X) (I := I) (a := p)
  have hMa := M_isPoint (X := X) (I := I) (a := p) (by omega)
  rw [pb.2.2] at hMa
  by_cases hp : 0 ≤ p ∧ p < I 10 0
  · rw [if_pos hp] at hTa hMa
    have hTb := T_isTurn (X := X) (I := I) (a := a)
    have hMb := M_isTurn (X := X) (I := I) (a := a) (by omega)
    rw [e] at hMb
    by_cases ha : 0 ≤ a ∧ a < I 4 0
    · rw [if_pos ha] at hTb hMb
      obtain ⟨t1, ⟨t2, t3, t4⟩, t5⟩ := id hT
      obtain ⟨J1, j1, j2, j3, j4, j5⟩ := A_keep (X := X) t2 t4
      have oJ1 : ∀ r, r ≠ 43 → ¬ (45 ≤ r ∧ r < 53) → J1 r = I r := fun r h1 h2 => j2 r (by simp only [List.mem_cons, List.not_mem_nil, or_false]; omega)
      have e10 := oJ1 10 (by decide) (by omega)
      obtain ⟨J2, a1, a2, a3⟩ := B_shiftOnly (X := X) (I := J1) (p := p) (a := a) (by rw [e10]; omega)
      rw [e10] at a3
      have oJ2 : ∀ r, r ≠ 43 → ¬ (45 ≤ r ∧ r < 53) → r ≠ 16 → J2 r = I r := fun r h1 h2 h3 => by rw [a2 r (by simp [h3]), oJ1 r h1 h2]
      have hs : ∀ q, 0 ≤ q → q < I 10 0 → 0 ≤ J2 16 q ∧ J2 16 q < I 4 0 := fun q q0 q1 => by
        rw [a3 q q0 q1]
        by_cases z : q = p
        · rw [if_pos z]; exact ha
        · rw [if_neg z]; omega
      have f2 : fr [16, 43, 45, 46, 47, 48, 49, 50, 51, 52] I J2 := (j2.mono (fun r hr => by simp only [List.mem_cons, List.not_mem_nil, or_false] at hr ⊢; omega)).tr (a2.mono (by decide))
      have hG2 : RlG J2 := hG.fr f2 (by decide)
      have hB2 : RlB J2 := hB.fr f2 (by decide)
      obtain ⟨J3, b1, b2, b3⟩ := B_turnPoints (X := X) hG2 hB2 (fun q q0 q1 => by rw [f2 10 (by decide)] at q1; rw [f2 4 (by decide)]; exact hs q q0 q1) (fun k k0 k1 => by rw [f2 10 (by decide)] at k1; rw [f2 13 (by decide), f2 4 (by decide)]; exact hT.t13 hB k k0 k1)
      have f3 : fr [13, 16, 43, 45, 46, 47, 48, 49, 50, 51, 52] I J3 := (f2.mono (by decide)).tr (b2.mono (by decide))
      have J77 : J3 77 = I 77 := f3 77 (by decide)
      obtain ⟨M1, m1, m2, m3, m4, m5⟩ := M_record (X := X) (I := J3) (by rw [J77, t3]; exact t2)
      -- the reference's row 95
      obtain ⟨M2, g1, g2, g3, g4⟩ := pl_loop (fun i (M : pm_I) => f_M_twist_24 X p a i M) 6 (fun i M => 0 ≤ i ∧ fr [95] M1 M ∧ ∀ q, 0 ≤ q → q < i → M 95 q = if q = p then a else 0) (fun i M hi hp => by
        obtain ⟨p0, p1, p2⟩ := hp
        show ∃ s', f_M_twist_24 X p a i M = f_M_twist_24 X p a (i + 1) s' ∧ _
        rw [e_M_twist_24, if_pos hi]
        by_cases z : i = p
        · rw [if_pos z, if_pos (by omega), if_pos (by omega)]
          refine ⟨_, rfl, by omega, p1.up (by decide), fun q q0 q1 => ?_⟩
          rw [up_at]
          by_cases y : q = i
          · rw [if_pos y, if_pos (by omega)]
          · rw [if_neg y]; exact p2 q q0 (by omega)
        · rw [if_neg z, if_pos (by omega), if_pos (by omega)]
          refine ⟨_, rfl, by omega, p1.up (by decide), fun q q0 q1 => ?_⟩
          rw [up_at]
          by_cases y : q = i
          · rw [if_pos y, if_neg (by omega)]
          · rw [if_neg y]; exact p2 q q0 (by omega)) (i := 0) (s := M1) (by omega) ⟨Int.le_refl 0, fr.rf _ _, fun q q0 q1 => by omega⟩
      obtain ⟨K, k1, k2⟩ := ok_turning (X := X) h (I 43 1) rfl j2 j3 j4 j5 (a2.mono (by decide)) hs b1 m2 m3 m4 m5 (g3.mono (by decide)) (fun q q0 q1 => by rw [g4 q q0 (by omega), a3 q q0 q1])
      refine ⟨cn (fun k => decide (¬ tpv J2 (J2 16) (J2 13) k = J2 13 k)) (J2 10 1).toNat, J3, K, ?_, ?_, k2⟩
      · rw [e_T_twist, hTa]
        simp only [Option.bind_some]
        rw [if_neg (by decide), hTb]
        simp only [Option.bind_some]
        rw [if_neg (by decide), j1]
        simp only [Option.bind_some]
        rw [a1]
        simp only [Option.bind_some]
        rw [b1]
        rfl
      · have hMa1 := M_isPoint (X := X) (I := J3) (a := p) (by rw [J77]; omega)
        have hMb1 := M_isTurn (X := X) (I := J3) (a := a) (by rw [J77]; omega)
        rw [J77, pb.2.2, if_pos hp] at hMa1
        rw [J77, e, if_pos ha] at hMb1
        rw [e_M_twist, hMa1]
        simp only [Option.bind_some]
        rw [if_neg (by decide), hMb1]
        simp only [Option.bind_some]
        rw [if_neg (by decide), m1]
        simp only [Option.bind_some]
        refine g1.trans ?_
        show f_M_twist_24 X p a 6 M2 = _
        rw [e_M_twist_24, if_neg (by omega), k1]
        rfl
    · rw [if_neg ha] at hTb hMb
      refine ⟨-1, I, I, ?_, ?_, h⟩
      · rw [e_T_twist, hTa]
        simp only [Option.bind_some]
        rw [if_neg (by decide), hTb]
        rfl
      · rw [e_M_twist, hMa]
        simp only [Option.bind_some]
        rw [if_neg (by decide), hMb]
        rfl
  · rw [if_neg hp] at hTa hMa
    refine ⟨-1, I, I, ?_, ?_, h⟩
    · rw [e_T_twist, hTa]; rfl
    · rw [e_M_twist, hMa]; rfl
end OPV
