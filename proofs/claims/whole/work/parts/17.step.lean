section OPS
variable {X : pm_XT} {I : pm_I}
theorem RlT.t13 (hT : RlT I) (hB : RlB I) : ∀ k, 0 ≤ k → k < I 10 1 → 0 ≤ I 13 k ∧ I 13 k < I 4 0 := fun k k0 k1 => (hT.1 k k0 (by have := hB.2.1; omega)).2.1
/-- backs and lines laid: the reference knows the walks' turns -/
theorem M_laid (h : Rl I) : ∃ J1 J, f_M_layBacks X I = some (0, J1) ∧ f_M_takeLines X J1 = some (0, J) ∧ fr [93, 94] I J ∧ Rl J ∧ ∀ w, 0 ≤ w → w < I 3 3 → f_M_turnOf X w J = some (wtn I 13 w, J) ∧ f_M_isClosed X w J = (f_M_isClosed X w I).map (fun x => (x.1, J)) := by
  obtain ⟨hG, hB, hT, hW, hS, hV⟩ := id h
  obtain ⟨J1, a1, a2, a3⟩ := M_layBacks (X := X) hG
  obtain ⟨J, b1, b2, b3⟩ := M_takeLines (X := X) (I := J1)
  have f : fr [93, 94] I J := (a2.mono (by decide)).tr (b2.mono (by decide))
  have hJ : Rl J := h.scr (f.mono (by decide))
  have e4 : J 4 = I 4 := f 4 (by decide)
  have e7 : J 7 = I 7 := f 7 (by decide)
  have e10 : J 10 = I 10 := f 10 (by decide)
  have l := hB.2.1
  have x93 : ∀ k, 0 ≤ k → k < 10 → J 93 k = I 13 k := fun k k0 k1 => by
    rw [b3 k k0 k1, a2 82 (by decide)]
    exact (hT.1 k k0 k1).1
  refine ⟨J1, J, a1, b1, f, hJ, fun w w0 w1 => ?_⟩
  have wb := hW.1
  have hw1 := hW.2 w w0 w1
  have hwJ := hJ.2.2.2.1.2 w w0 (by rw [f 3 (by decide)]; exact w1)
  refine ⟨?_, ?_⟩
  · rw [M_turnOf hJ.1 ⟨w0, by omega⟩ hwJ (by rw [e10]; omega) (fun a a0 a1 => by rw [b2 94 (by decide), e7]; exact a3 a a0 (by rw [e4] at a1; exact a1)) (fun k k0 k1 => by rw [e10] at k1; rw [x93 k k0 (by omega), e4]; exact hT.t13 hB k k0 k1)]
    rw [wtn_congr hG (by rw [e4]) (f 6 (by decide)) e7 hw1 (by rw [f 84 (by decide)]) (f _ (by simp only [List.mem_cons, List.not_mem_nil, or_false]; unfold wk; omega)) (f _ (by simp only [List.mem_cons, List.not_mem_nil, or_false]; unfold wk; omega)) (r := 13) (fun k k0 k1 => ⟨x93 k k0 (by omega), hT.t13 hB k k0 k1⟩)]
  · have cI := M_isClosed (X := X) hB ⟨w0, by omega⟩ hw1
    have cJ := M_isClosed (X := X) hJ.2.1 ⟨w0, by omega⟩ hwJ
    have ec : cld J w ↔ cld I w := by
      unfold cld
      rw [endv.cg (f 11 (by decide)) (f 12 (by decide)) (f 83 (by decide)) (f 84 (by decide)) (f 85 (by decide)) (f 86 (by decide)), f 83 (by decide), f 84 (by decide)]
    by_cases z : cld I w
    · rw [cI.1 z, cJ.1 (ec.mpr z)]; rfl
    · rw [cI.2 z, cJ.2 (fun q => z (ec.mp q))]; rfl
theorem ok_told (h : Rl I) {w v : Int} : Ok (f_T_told X w v) (f_M_told X w v) I := by
  obtain ⟨hG, hB, hT, hW, hS, hV⟩ := id h
  have wb := hW.1
  have l := hB.2.1
  have hTa := T_isWalk (X := X) (I := I) (a := w)
  have hMa := M_isWalk (X := X) (I := I) (a := w) (by omega)
  rw [wb.2.2] at hMa
  by_cases hw : 0 ≤ w ∧ w < I 3 3
  · rw [if_pos hw] at hTa hMa
    have w8 : 0 ≤ w ∧ w < 8 := by omega
    obtain ⟨c1, c2, -⟩ := c_wk w8
    have hw1 := hW.2 w hw.1 hw.2
    have cW := W_isClosed (X := X) w8 hw1
    have tW := W_turnWith (X := X) hG w8 hw1 l.2.1 (r := 13) ⟨rfl, rfl⟩ (hT.t13 hB)
    have cM := M_isClosed (X := X) hB w8 hw1
    obtain ⟨J1, J, j1, j2, j3, j4, j5⟩ := M_laid (X := X) h
    obtain ⟨t1, t2⟩ := j5 w hw.1 hw.2
    have eE := M_endOf (X := X) j4.2.1 w8 (j4.2.2.2.1.2 w hw.1 (by rw [j3 3 (by decide)]; exact hw.2))
    rw [endv.cg (j3 11 (by decide)) (j3 12 (by decide)) (j3 83 (by decide)) (j3 84 (by decide)) (j3 85 (by decide)) (j3 86 (by decide))] at eE
    obtain ⟨q1, q2, q3, q4, q5⟩ := id hw1
    by_cases hv : 0 ≤ v ∧ v ≤ 4
    · have eT : f_T_told X w v I = if v = 0 then some (I 84 w, I) else if v = 1 then some (endv I w, I) else if v = 2 then (f_W_isClosed X (wk w) I).bind (fun x2 => if x2.1 = 0 then some (0, x2.2) else some (1, x2.2)) else if v = 3 then some (wtn I 13 w, I) else if I 87 w = 0 then some (0, I) else some (1, I) := by
        rw [e_T_told, hTa]
        simp only [Option.bind_some]
        rw [if_neg (by decide), if_pos w8, c1, c2, tW, q2.1, q3.1, q5]
        simp only [show Nat.beq 5 5 = true from rfl, cond_true, Option.bind_some]
        have : v = 0 ∨ v = 1 ∨ v = 2 ∨ v = 3 ∨ v = 4 := by omega
        rcases this with z | z | z | z | z <;> subst z <;> rfl
      have eM : f_M_told X w v I = if v = 0 then some (I 84 w, J) else if v = 1 then some (endv I w, J) else if v = 2 then ((f_M_isClosed X w I).map (fun x => (x.1, J))).bind (fun x2 => if x2.1 = 0 then some (0, x2.2) else some (1, x2.2)) else if v = 3 then some (wtn I 13 w, J) else if I 87 w = 0 then some (0, J) else some (1, J) := by
        rw [e_M_told, hMa]
        simp only [Option.bind_some]
        rw [if_neg (by decide), M_in, if_pos hv]
        simp only [Option.bind_some]
        rw [if_neg (by decide), j1]
        simp only [Option.bind_some]
        rw [j2]
        simp only [Option.bind_some]
        rw [eE, t1, t2, j3 84 (by decide), j3 87 (by decide)]
        simp only [if_pos w8]
        have : v = 0 ∨ v = 1 ∨ v = 2 ∨ v = 3 ∨ v = 4 := by omega
        rcases this with z | z | z | z | z <;> subst z <;> rfl
      by_cases y : cld I w
      · rw [cW.1 y] at eT
        rw [cM.1 y] at eM
        have : v = 0 ∨ v = 1 ∨ v = 2 ∨ v = 3 ∨ v = 4 := by omega
        by_cases u : I 87 w = 0
        · rw [if_pos u] at eT eM
          rcases this with z | z | z | z | z <;> subst z <;> exact ⟨_, I, J, eT, eM, j4⟩
        · rw [if_neg u] at eT eM
          rcases this with z | z | z | z | z <;> subst z <;> exact ⟨_, I, J, eT, eM, j4⟩
      · rw [cW.2 y] at eT
        rw [cM.2 y] at eM
        have : v = 0 ∨ v = 1 ∨ v = 2 ∨ v = 3 ∨ v = 4 := by omega
        by_cases u : I 87 w = 0
        · rw [if_pos u] at eT eM
          rcases this with z | z | z | z | z <;> subst z <;> exact ⟨_, I, J, eT, eM, j4⟩
        · rw [if_neg u] at eT eM
          rcases this with z | z | z | z | z <;> subst z <;> exact ⟨_, I, J, eT, eM, j4⟩
    · refine ⟨-1, I, I, ?_, ?_, h⟩
      · rw [e_T_told, hTa]
        simp only [Option.bind_some]
        rw [if_neg (by decide), if_pos w8, if_neg (by omega), if_neg (by omega), if_neg (by omega), if_neg (by omega), if_neg (by omega)]
      · rw [e_M_told, hMa]
        simp only [Option.bind_some]
        rw [if_neg (by decide), M_in, if_neg hv]
        rfl
  · rw [if_neg hw] at hTa hMa
    refine ⟨-1, I, I, ?_, ?_, h⟩
    · rw [e_T_told, hTa]; rfl
    · rw [e_M_told, hMa]; rfl
theorem ok_at (h : Rl I) {v : Int} : Ok (f_T_at X v) (f_M_at X v) I := by
  obtain ⟨hG, hB, hT, hW, hS, hV⟩ := id h
  have l := hB.2.1
  have hTa := T_isLine (X := X) (I := I) (a := v)
  have hMa := M_isLine (X := X) (I := I) (a := v) (by omega)
  rw [l.2.2] at hMa
  by_cases hv : 0 ≤ v ∧ v < I 10 1
  · rw [if_pos hv] at hTa hMa
    refine ⟨I 13 v, I, I, ?_, ?_, h⟩
    · rw [e_T_at, hTa]
      simp only [Option.bind_some]
      rw [if_neg (by decide), if_pos (by omega)]
    · rw [e_M_at, hMa]
      simp only [Option.bind_some]
      rw [if_neg (by decide), if_pos (by omega), (hT.1 v hv.1 (by omega)).1]
  · rw [if_neg hv] at hTa hMa
    refine ⟨-1, I, I, ?_, ?_, h⟩
    · rw [e_T_at, hTa]; rfl
    · rw [e_M_at, hMa]; rfl
/-- a change of walk w alone -/
theorem Rl.walk (h : Rl I) {w : Int} {K : pm_I} (hw : 0 ≤ w ∧ w < I 3 3) (f : fr [wk w, wk w + 1, wk w + 2, 84, 85, 86, 87] I K) (h84 : ∀ j, j ≠ w → K 84 j = I 84 j) (h87 : ∀ j, j ≠ w → K 87 j = I 87 j) (h8 : ∀ u s, 0 ≤ u → u < 8 → u ≠ w → 0 ≤ s → s < 6 → K 85 (6 * u + s) = I 85 (6 * u + s) ∧ K 86 (6 * u + s) = I 86 (6 * u + s)) (hk : RlW1 K w) : Rl K := by
  obtain ⟨hG, hB, hT, hW, hS, hV⟩ := h
  have wb := hW.1
  have hwk : 19 ≤ wk w ∧ wk w ≤ 40 := by unfold wk; omega
  have g : ∀ r, r ∉ [84, 85, 86, 87] → ¬ (19 ≤ r ∧ r < 43) → K r = I r := fun r h1 h2 => f r (by
    simp only [List.mem_cons, List.not_mem_nil, or_false] at h1 ⊢
    omega)
  have e10 := g 10 (by decide) (by omega)
  have e77 := g 77 (by decide) (by omega)
  have e4 := g 4 (by decide) (by omega)
  refine ⟨hG.cg (by rw [e4]) (g 6 (by decide) (by omega)) (g 7 (by decide) (by omega)) (g 8 (by decide) (by omega)) (by rw [e77]) (g 78 (by decide) (by omega)),
    hB.cg (by rw [e10]) (by rw [e10]) (by rw [e10]) (by rw [e77]) (by rw [e77]) (g 11 (by decide) (by omega)) (g 12 (by decide) (by omega)) (g 14 (by decide) (by omega)) (g 15 (by decide) (by omega)) (g 80 (by decide) (by omega)) (g 81 (by decide) (by omega)),
    hT.cg (by rw [e4]) (by rw [e10]) (g 13 (by decide) (by omega)) (g 82 (by decide) (by omega)) (g 43 (by decide) (by omega)) (fun r a b => g r (by simp only [List.mem_cons, List.not_mem_nil, or_false]; omega) (by omega)) (by rw [e77]) (g 88 (by decide) (by omega)), ⟨by rw [g 3 (by decide) (by omega), e77]; exact wb, fun u u0 u1 => ?_⟩,
    hS.cg (fun r a b => g r (by simp only [List.mem_cons, List.not_mem_nil, or_false]; omega) (by omega)) (g 89 (by decide) (by omega)) (g 90 (by decide) (by omega)) (g 91 (by decide) (by omega)),
    hV.cg (by rw [e4]) (g 9 (by decide) (by omega)) (g 79 (by decide) (by omega))⟩
  rw [g 3 (by decide) (by omega)] at u1
  by_cases z : u = w
  · rw [z]; exact hk
  · have hne : ∀ d, d < 3 → K (wk u + d) = I (wk u + d) := fun d hd => f _ (by
      simp only [List.mem_cons, List.not_mem_nil, or_false]
      unfold wk
      omega)
    have old := hW.2 u u0 u1
    have q2 := old.2.1
    exact old.cg (hne 0 (by omega)) (hne 1 (by omega)) (hne 2 (by omega)) (by rw [e10]) (by rw [e10]) (g 11 (by decide) (by omega)) (g 12 (by decide) (by omega)) (by rw [g 83 (by decide) (by omega)]) (h84 u z) (h87 u z) (fun s s0 s1 => h8 u s u0 (by omega) z s0 (by omega))
theorem ok_counts (h : Rl I) {w v : Int} (hv : v = 0 ∨ v = 1) : Ok (f_T_counts X w v) (f_M_counts X w v) I := by
  obtain ⟨hG, hB, hT, hW, hS, hV⟩ := id h
  have wb := hW.1
  have hTa := T_isWalk (X := X) (I := I) (a := w)
  have hMa := M_isWalk (X := X) (I := I) (a := w) (by omega)
  rw [wb.2.2] at hMa
  by_cases hw : 0 ≤ w ∧ w < I 3 3
  · rw [if_pos hw] at hTa hMa
    have w8 : 0 ≤ w ∧ w < 8 := by omega
    obtain ⟨c1, c2, -⟩ := c_wk w8
    have hw1 := hW.2 w hw.1 hw.2
    obtain ⟨q1, q2, q3, q4, q5⟩ := id hw1
    have hwk : 19 ≤ wk w ∧ wk w ≤ 40 := by unfold wk; omega
    have f1 : fr [wk w] I (pm_up I (wk w) 3 v) := (fr.rf _ I).up (by simp)
    have e77 : pm_up I (wk w) 3 v 77 = I 77 := f1 77 (by simp; omega)
    have e87 : pm_up I (wk w) 3 v 87 = I 87 := f1 87 (by simp; omega)
    have hMa1 := M_isWalk (X := X) (I := pm_up I (wk w) 3 v) (a := w) (by rw [e77]; omega)
    rw [e77, wb.2.2, if_pos hw] at hMa1
    have eT : f_T_counts X w v I = some (if I 87 w = 0 then 0 else 1, pm_up I (wk w) 3 v) := by
      rw [e_T_counts, hTa]
      simp only [Option.bind_some]
      rw [if_neg (by decide), if_pos w8, c1, c2, q3.1]
      simp only [show Nat.beq 5 5 = true from rfl, cond_true, if_pos w8, if_pos hv]
      by_cases z : I 87 w = 0
      · rw [if_pos z, if_pos z]
      · rw [if_neg z, if_neg z]
    have eM : f_M_counts X w v (pm_up I (wk w) 3 v) = some (if I 87 w = 0 then 0 else 1, pm_up (pm_up I (wk w) 3 v) 87 w v) := by
      rw [e_M_counts, hMa1]
      simp only [Option.bind_some]
      rw [if_neg (by decide), if_pos w8, e87]
      simp only [if_pos w8, if_pos hv]
      by_cases z : I 87 w = 0
      · rw [if_pos z, if_pos z]
      · rw [if_neg z, if_neg z]
    refine ⟨_, _, _, eT, eM, ?_⟩
    generalize hK : pm_up (pm_up I (wk w) 3 v) 87 w v = K
    have f : fr [wk w, wk w + 1, wk w + 2, 84, 85, 86, 87] I K := by
      rw [← hK]
      exact (f1.mono (by simp)).up (by simp)
    have k87 : ∀ j, K 87 j = if j = w then v else I 87 j := fun j => by rw [← hK, up_at, e87]
    have kw : ∀ j, K (wk w) j = if j = 3 then v else I (wk w) j := fun j => by rw [← hK, up_rw _ (by omega), up_at]
    have o : ∀ r, r ≠ wk w → r ≠ 87 → K r = I r := fun r h1 h2 => by rw [← hK, up_rw _ h2, up_rw _ h1]
    have n84 := o 84 (by omega) (by omega)
    have n85 := o 85 (by omega) (by omega)
    have n86 := o 86 (by omega) (by omega)
    have n83 := o 83 (by omega) (by omega)
    have n10 := o 10 (by omega) (by omega)
    refine h.walk hw f (fun j _ => by rw [n84]) (fun j hj => by rw [k87, if_neg hj]) (fun u s _ _ _ _ _ => by rw [n85, n86]; exact ⟨rfl, rfl⟩) ?_
    unfold RlW1
    rw [endv.cg (o 11 (by omega) (by omega)) (o 12 (by omega) (by omega)) n83 n84 n85 n86, kw 0, kw 2, kw 3, kw 1, k87, if_pos rfl, if_pos rfl, if_neg (by decide), if_neg (by decide), if_neg (by decide), n84, n85, n86, n83, n10, o (wk w + 1) (by omega) (by omega), o (wk w + 2) (by omega) (by omega)]
    exact ⟨q1, q2, ⟨rfl, hv⟩, q4, q5⟩
  · rw [if_neg hw] at hTa hMa
    refine ⟨-1, I, I, ?_, ?_, h⟩
    · rw [e_T_counts, hTa]; rfl
    · rw [e_M_counts, hMa]; rfl
end OPS
