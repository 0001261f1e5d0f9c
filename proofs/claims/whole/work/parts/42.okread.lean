section OKR
variable {X : pm_XT} {I : pm_I}
theorem ok_read (h : Rl I) {k a f n : Int} (hf : pm_r32 f) : Ok (f_T_read X k a f n) (f_M_read X k a f n) I := by
  obtain ⟨hG, hB, hT, hW, hS, hV⟩ := id h
  have hTk := T_isSheet (X := X) (I := I) (a := k)
  have hTa := T_isLane (X := X) (I := I) (a := a)
  by_cases hk : 0 ≤ k ∧ k < 4
  · rw [if_pos hk] at hTk
    by_cases ha : 0 ≤ a ∧ a < 3
    · rw [if_pos ha] at hTa
      by_cases hn : 1 ≤ n ∧ n ≤ 8
      · obtain ⟨c1, c2, c3, c4⟩ := c_sh hk
        obtain ⟨s1, s2, s3⟩ := hS k hk.1 hk.2
        have eT := e_T_read X k a f n I
        rw [hTk] at eT
        simp only [Option.bind_some] at eT
        rw [if_neg (by decide), hTa] at eT
        simp only [Option.bind_some] at eT
        rw [if_neg (by decide), if_neg (by omega), if_neg (by omega), if_pos hk, c1, c2, e_S_faultAs, c2] at eT
        simp only [show Nat.beq 3 3 = true from rfl, cond_true] at eT
        have eM : ∀ J : pm_I, J 89 = I 89 → f_M_read X k a f n J = if I 89 k = a then f_M_read_71 X k f n 0 J else if I 89 k = -4 then some (-11, J) else some (-13, J) := fun J hJ => by
          rw [e_M_read, M_in, if_pos (by omega)]
          simp only [Option.bind_some]
          rw [if_neg (by decide), M_in, if_pos (by omega)]
          simp only [Option.bind_some]
          rw [if_neg (by decide), M_in, if_pos (by omega)]
          simp only [Option.bind_some]
          rw [if_neg (by decide), if_pos hk, hJ, if_pos hk]
        rcases s1 with s1 | s1
        · refine ⟨-11, I, I, ?_, ?_, h⟩
          · rw [eT, if_pos s1.1]; rfl
          · rw [eM I rfl, if_neg (by omega), if_pos s1.2]
        · rw [if_neg (by omega)] at eT
          by_cases q : I (sh k) 2 = a
          · rw [if_pos q] at eT
            simp only [Option.bind_some] at eT
            rw [if_pos trivial, if_pos hk] at eT
            have eM1 : ∀ J : pm_I, J 89 = I 89 → f_M_read X k a f n J = f_M_read_71 X k f n 0 J := fun J hJ => by rw [eM J hJ, if_pos (by omega)]
            have nn : 0 ≤ n * n ∧ n * n ≤ 8 * 8 := mul_b (by omega) (by omega)
            have cM : ∀ i, 0 ≤ f + i → f + i < 64 → I 91 (64 * k + f + i) = I (sh k + 1) (f + i) := fun i i0 i1 => by
              rw [s3 (f + i) i0 i1, show 64 * k + (f + i) = 64 * k + f + i by omega]
            have tT : ∃ J', f_T_draftFrom X (sh k) f n I = some (rdf (I 90 k) f n (fun i => I (sh k + 1) (f + i)) (n * n).toNat 0, J') ∧ fr [5] I J' ∧ (rdf (I 90 k) f n (fun i => I (sh k + 1) (f + i)) (n * n).toNat 0 = 0 → ∀ x y, 0 ≤ x → x < n → 0 ≤ y → y < n → J' 5 (8 * x + y) = I (sh k + 1) (f + (n * x + y)) ∧ 0 ≤ I (sh k + 1) (f + (n * x + y)) ∧ I (sh k + 1) (f + (n * x + y)) < n) := by
              obtain ⟨J', j1, j2, j3⟩ := T_draft (X := X) (cv := fun i => I (sh k + 1) (f + i)) hk hf hn s2.2 (n * n).toNat 0 0 I (by omega) (by omega) (by omega) (fun z => by omega) s2.1 (fun _ => rfl)
              rw [show n * 0 + 0 = 0 by omega] at j1 j3
              refine ⟨J', ?_, j2, fun z x y x0 x1 y0 y1 => (j3 z).1 x y x0 x1 y0 y1 (by omega)⟩
              rw [e_T_draftFrom, e_T_draftFrom_3, if_pos (by omega)]
              exact j1
            obtain ⟨J, j1, j2, j3⟩ := tT
            rw [j1] at eT
            simp only [Option.bind_some] at eT
            have mC : ∀ K : pm_I, K 90 = I 90 → K 91 = I 91 → _ := fun K e90 e91 => M_cells (X := X) (cv := fun i => I (sh k + 1) (f + i)) hk hf hn (len := I 90 k) s2.2 (n * n).toNat 0 K (by omega) (by omega) (by rw [e90]) (fun i i0 i1 => by rw [e91]; exact cM i i0 i1)
            by_cases r0 : rdf (I 90 k) f n (fun i => I (sh k + 1) (f + i)) (n * n).toNat 0 = 0
            · have j4 := j3 r0
              rw [if_pos r0] at eT
              -- the table
              have mT : ∀ K : pm_I, K 90 = I 90 → K 91 = I 91 → ∃ L, f_M_read_71 X k f n 0 K = f_M_read_173 X n 0 L ∧ fr [92] K L ∧ ∀ x y, 0 ≤ x → x < n → 0 ≤ y → y < n → L 92 (8 * x + y) = I (sh k + 1) (f + (n * x + y)) := fun K e90 e91 => by
                obtain ⟨L, l1, l2, l3, -⟩ := (mC K e90 e91).2 r0
                refine ⟨L, l1, l2, fun x y x0 x1 y0 y1 => ?_⟩
                have hx : 0 ≤ n * x := Int.mul_nonneg (by omega) x0
                have hx2 : n * (x + 1) ≤ n * n := Int.mul_le_mul_of_nonneg_left (by omega) (by omega)
                rw [Int.mul_add] at hx2
                have e := l3 (n * x + y) (by omega) (by omega)
                rw [(dv ⟨y0, y1⟩).1, (dv ⟨y0, y1⟩).2] at e
                exact e
              obtain ⟨L0, l1, l2, l3⟩ := mT J (j2 90 (by decide)) (j2 91 (by decide))
              rcases c_all (X := X) (A := J) (B := L0) (t := fun x y => I (sh k + 1) (f + (n * x + y))) hn (fun x y x0 x1 y0 y1 => (j4 x y x0 x1 y0 y1).2) (fun x y x0 x1 y0 y1 => (j4 x y x0 x1 y0 y1).1) l3 with ⟨c, c0, d1, d2⟩ | ⟨d1, -, g⟩
              · rw [d1] at eT
                simp only [Option.bind_some] at eT
                rw [if_neg c0] at eT
                refine ⟨c, J, L0, eT, ?_, h.scr ((j2.mono (by decide)).tr (l2.mono (by decide)))⟩
                rw [eM1 J (j2 89 (by decide)), l1, d2]
              · rw [d1] at eT
                simp only [Option.bind_some] at eT
                rw [if_pos trivial] at eT
                obtain ⟨K, k1, k2, k3⟩ := grp_end (X := X) h (j2.mono (by decide)) g
                have kI : ∀ r, r ∉ ([4, 5, 6, 7, 8, 9, 13, 43] : List Nat) → K r = I r := fun r hr => ((k2.mono (rs' := [4, 5, 6, 7, 8, 9, 13, 43]) (by decide)) r hr).trans ((j2.mono (rs' := [4, 5, 6, 7, 8, 9, 13, 43]) (by decide)) r hr)
                obtain ⟨L, l1', l2', l3'⟩ := mT K (kI 90 (by decide)) (kI 91 (by decide))
                rcases c_all (X := X) (A := J) (B := L) (t := fun x y => I (sh k + 1) (f + (n * x + y))) hn (fun x y x0 x1 y0 y1 => (j4 x y x0 x1 y0 y1).2) (fun x y x0 x1 y0 y1 => (j4 x y x0 x1 y0 y1).1) l3' with ⟨c, c0, d1', -⟩ | ⟨-, d2, -⟩
                · rw [d1] at d1'
                  exact absurd (congrArg Prod.fst (Option.some.inj d1')).symm c0
                · obtain ⟨C, m1, m2, m3⟩ := M_read_432 (X := X) (B := L) (n := n)
                  obtain ⟨M, n1, n2⟩ := k3 C ((l2'.mono (by decide)).tr (m2.mono (by decide))) (fun x y x0 x1 y0 y1 => by
                    rw [m3 _ (by omega) (by omega), l3' x y x0 x1 y0 y1, (j4 x y x0 x1 y0 y1).1])
                  refine ⟨n, K, M, ?_, ?_, n2⟩
                  · rw [eT, k1]; rfl
                  · rw [eM1 K (kI 89 (by decide)), l1', d2, m1, n1]; rfl
            · rw [if_neg r0, if_neg r0] at eT
              obtain ⟨L, l1, l2⟩ := (mC J (j2 90 (by decide)) (j2 91 (by decide))).1 r0
              refine ⟨_, J, L, eT, ?_, h.scr ((j2.mono (by decide)).tr (l2.mono (by decide)))⟩
              rw [eM1 J (j2 89 (by decide)), l1]
          · rw [if_neg q] at eT
            refine ⟨-13, I, I, ?_, ?_, h⟩
            · rw [eT]; rfl
            · rw [eM I rfl, if_neg (by omega), if_neg (by omega)]
      · refine ⟨-1, I, I, ?_, ?_, h⟩
        · rw [e_T_read, hTk]
          simp only [Option.bind_some]
          rw [if_neg (by decide), hTa]
          simp only [Option.bind_some]
          rw [if_neg (by decide)]
          by_cases z : n < 1
          · rw [if_pos z]
          · rw [if_neg z, if_pos (by omega)]
        · rw [e_M_read, M_in, if_pos (by omega)]
          simp only [Option.bind_some]
          rw [if_neg (by decide), M_in, if_pos (by omega)]
          simp only [Option.bind_some]
          rw [if_neg (by decide), M_in, if_neg hn]
          rfl
    · rw [if_neg ha] at hTa
      refine ⟨-1, I, I, ?_, ?_, h⟩
      · rw [e_T_read, hTk]
        simp only [Option.bind_some]
        rw [if_neg (by decide), hTa]
        rfl
      · rw [e_M_read, M_in, if_pos (by omega)]
        simp only [Option.bind_some]
        rw [if_neg (by decide), M_in, if_neg (by omega)]
        rfl
  · rw [if_neg hk] at hTk
    refine ⟨-1, I, I, ?_, ?_, h⟩
    · rw [e_T_read, hTk]; rfl
    · rw [e_M_read, M_in, if_neg (by omega)]; rfl
end OKR
