section STN
variable {X : pm_XT} {I : pm_I}
theorem ok_still (h : Rl I) : Ok (f_T_still X) (f_M_still X) I := by
  obtain ⟨hG, hB, hT, hW, hS, hV⟩ := id h
  obtain ⟨t1, ⟨t2, t3, t4⟩, t5⟩ := id hT
  have pb := hB.1
  have l := hB.2.1
  obtain ⟨J1, j1, j2, j3, j4, j5⟩ := A_keep (X := X) t2 t4
  have f1 : fr [43, 45, 46, 47, 48, 49, 50, 51, 52] I J1 := j2.mono (fun r hr => by simp only [List.mem_cons, List.not_mem_nil, or_false] at hr ⊢; omega)
  have hG1 : RlG J1 := hG.fr f1 (by decide)
  have hB1 : RlB J1 := hB.fr f1 (by decide)
  have ht1 : ∀ k, 0 ≤ k → k < J1 10 1 → 0 ≤ J1 13 k ∧ J1 13 k < J1 4 0 := fun k k0 k1 => by
    rw [f1 10 (by decide)] at k1
    rw [f1 13 (by decide), f1 4 (by decide)]
    exact hT.t13 hB k k0 k1
  obtain ⟨J2, a1, a2, a3⟩ := B_shiftToStill (X := X) hG1 hB1 ht1
  have f2 : fr [16, 17, 43, 45, 46, 47, 48, 49, 50, 51, 52] I J2 := (f1.mono (by decide)).tr (a2.mono (by decide))
  have hs : ∀ q, 0 ≤ q → q < I 10 0 → 0 ≤ J2 16 q ∧ J2 16 q < I 4 0 := fun q q0 q1 => by
    have := (a3 q q0 (by rw [f1 10 (by decide)]; exact q1)).2
    rw [f1 4 (by decide)] at this
    exact this
  have hG2 : RlG J2 := hG.fr f2 (by decide)
  have hB2 : RlB J2 := hB.fr f2 (by decide)
  obtain ⟨J3, b1, b2, b3⟩ := B_turnPoints (X := X) hG2 hB2 (fun q q0 q1 => by rw [f2 10 (by decide)] at q1; rw [f2 4 (by decide)]; exact hs q q0 q1) (fun k k0 k1 => by rw [f2 10 (by decide)] at k1; rw [f2 13 (by decide), f2 4 (by decide)]; exact hT.t13 hB k k0 k1)
  have f3 : fr [13, 16, 17, 43, 45, 46, 47, 48, 49, 50, 51, 52] I J3 := (f2.mono (by decide)).tr (b2.mono (by decide))
  have J77 : J3 77 = I 77 := f3 77 (by decide)
  obtain ⟨M1, m1, m2, m3, m4, m5⟩ := M_record (X := X) (I := J3) (by rw [J77, t3]; exact t2)
  have M77 : ∀ j, j ≠ 14 → M1 77 j = I 77 j := fun j hj => by rw [m3 j hj, J77]
  have o : ∀ r, r ∉ [13, 16, 17, 43, 45, 46, 47, 48, 49, 50, 51, 52, 77, 88] → M1 r = I r := fun r hr => by
    rw [m2 r (fun z => hr (by simp only [List.mem_cons, List.not_mem_nil, or_false] at z ⊢; omega)), f3 r (fun z => hr (by simp only [List.mem_cons, List.not_mem_nil, or_false] at z ⊢; omega))]
  have hGM : RlG M1 := hG.cg (by rw [o 4 (by decide)]) (o 6 (by decide)) (o 7 (by decide)) (o 8 (by decide)) (M77 0 (by decide)) (o 78 (by decide))
  have hBM : RlB M1 := hB.cg (by rw [o 10 (by decide)]) (by rw [o 10 (by decide)]) (by rw [o 10 (by decide)]) (M77 3 (by decide)) (M77 4 (by decide)) (o 11 (by decide)) (o 12 (by decide)) (o 14 (by decide)) (o 15 (by decide)) (o 80 (by decide)) (o 81 (by decide))
  obtain ⟨B1, x1, x2, x3⟩ := M_layBacks (X := X) hGM
  have hGB : RlG B1 := hGM.fr x2 (by decide)
  have hBB : RlB B1 := hBM.fr x2 (by decide)
  obtain ⟨B2, y1, y2, y3, y4⟩ := M_layTree (X := X) hBB
  have fB : fr [94, 96, 97] M1 B2 := (x2.mono (by decide)).tr (y2.mono (by decide))
  have tl := hBB.tl
  have oB : ∀ r, r ∉ [13, 16, 17, 43, 45, 46, 47, 48, 49, 50, 51, 52, 77, 88, 94, 96, 97] → B2 r = I r := fun r hr => by
    rw [fB r (fun z => hr (by simp only [List.mem_cons, List.not_mem_nil, or_false] at z ⊢; omega)), o r (fun z => hr (by simp only [List.mem_cons, List.not_mem_nil, or_false] at z ⊢; omega))]
  have B77 : ∀ j, j ≠ 14 → B2 77 j = I 77 j := fun j hj => by rw [fB 77 (by decide), M77 j hj]
  obtain ⟨M2, z1, z2, z3⟩ := M_still_20 (X := X) hG hB (n := B1 10 2) (L0 := B2) (B77 4 (by decide)) (oB 78 (by decide)) (oB 80 (by decide)) (oB 81 (by decide)) (oB 82 (by decide)) (fun k k0 k1 => ⟨(t1 k k0 (by omega)).1, hT.t13 hB k k0 k1⟩)
    (fun a a0 a1 => by rw [y2 94 (by decide)]; have := x3 a a0 (by rw [o 4 (by decide)]; exact a1); rw [this, o 7 (by decide)])
    (fun p p0 p1 => by rw [y3 p p0 p1, x2 11 (by decide), x2 12 (by decide), x2 10 (by decide), o 11 (by decide), o 12 (by decide), o 10 (by decide)])
    (fun k k0 k1 => by rw [y4 k k0 (by rw [x2 10 (by decide), o 10 (by decide)]; exact k1), x2 14 (by decide), o 14 (by decide)])
  have fM : fr [94, 95, 96, 97, 98] M1 M2 := (fB.mono (by decide)).tr (z2.mono (by decide))
  obtain ⟨K, k1, k2⟩ := ok_turning (X := X) h (I 43 1) rfl j2 j3 j4 j5 a2 hs b1 m2 m3 m4 m5 fM (fun q q0 q1 => by
    rw [z3 q q0 q1, (a3 q q0 (by rw [f1 10 (by decide)]; exact q1)).1]
    have e : st0 J1 = st0 I := by unfold st0; rw [f1 11 (by decide), f1 12 (by decide), f1 10 (by decide)]
    rw [e, f1 10 (by decide), rr_rows (f1 6 (by decide)) (f1 7 (by decide)) (by rw [f1 10 (by decide)]) (f1 11 (by decide)) (f1 12 (by decide)) (f1 13 (by decide))])
  refine ⟨cn (fun k => decide (¬ tpv J2 (J2 16) (J2 13) k = J2 13 k)) (J2 10 1).toNat, J3, K, ?_, ?_, k2⟩
  · rw [e_T_still, j1]
    simp only [Option.bind_some]
    rw [a1]
    simp only [Option.bind_some]
    rw [b1]
    rfl
  · rw [e_M_still, m1]
    simp only [Option.bind_some]
    rw [x1]
    simp only [Option.bind_some]
    rw [y1]
    simp only [Option.bind_some]
    rw [z1, e_M_still_59, if_neg (by omega), if_neg (by omega), k1]
    rfl
end STN
