/-! FILL: the class first, the reference behind it -/
/-- the class's rows of one heap, the reference's of another -/
def mrg (A B : pm_I) : pm_I := fun r => if r < 77 then A r else B r
theorem mrg_lo (A B : pm_I) {r : Nat} (h : r < 77) : mrg A B r = A r := by unfold mrg; rw [if_pos h]
theorem mrg_hi (A B : pm_I) {r : Nat} (h : ¬ r < 77) : mrg A B r = B r := by unfold mrg; rw [if_neg h]
theorem mrg_eq {A B : pm_I} (h : ∀ r, r < 77 → B r = A r) : mrg A B = B := by
  funext r
  by_cases z : r < 77
  · rw [mrg_lo _ _ z, h r z]
  · rw [mrg_hi _ _ z]
section FIL
variable {X : pm_XT} {I : pm_I}
/-- one line of the class's -/
theorem T_fill_1 {A : pm_I} {k f c i : Int} (hk : 0 ≤ k ∧ k < 4) (h0 : 0 ≤ A 43 0 ∧ A 43 0 ≤ 8) (h1 : 0 ≤ A 43 1 ∧ A 43 1 < 8) (l : A 10 1 ≤ 10) (hi : 0 ≤ i ∧ i < A 10 1) (hc : 0 ≤ c ∧ c ≤ 10) (hg : 0 ≤ f + i ∧ f + i < 64) :
    (A (sh k + 1) (f + i) = A 13 i → f_T_fillLines_5 X (sh k) f c i A = f_T_fillLines_5 X (sh k) f c (i + 1) A) ∧
    (¬ A (sh k + 1) (f + i) = A 13 i → ∃ J, fr [43, 45 + (A 43 1).toNat] A J ∧ (∀ k, 0 ≤ k → k < 10 → J (45 + (A 43 1).toNat) k = A 13 k) ∧ J 43 0 = min (A 43 0 + 1) 8 ∧ J 43 1 = (A 43 1 + 1) % 8 ∧ f_T_fillLines_5 X (sh k) f c i A = f_T_fillLines_5 X (sh k) f (c + 1) (i + 1) (pm_up J 13 i (A (sh k + 1) (f + i)))) := by
  obtain ⟨c1, c2, c3, c4⟩ := c_sh hk
  have c5 := c_shl X.2 hk
  have e := e_T_fillLines_5 X (sh k) f c i A
  rw [if_pos hi.2, c2, c3, c4, c5] at e
  simp only [show Nat.beq 3 3 = true from rfl, show Nat.beq 8 8 = true from rfl, cond_true] at e
  rw [if_pos (by omega), if_pos hg, if_pos (by omega)] at e
  refine ⟨fun z => ?_, fun z => ?_⟩
  · rw [if_pos z, if_pos (by omega)] at e; exact e
  · obtain ⟨J, j1, j2, j3, j4, j5⟩ := A_keep (X := X) h0 h1
    rw [if_neg z, j1] at e
    simp only [Option.bind_some] at e
    rw [if_pos (by omega), if_pos (by omega), if_pos (by omega)] at e
    exact ⟨J, j2, j3, j4, j5, e⟩
/-- the reference behind the class -/
theorem M_fill_n {k f : Int} (hk : 0 ≤ k ∧ k < 4) {c' : Int} {A' : pm_I} : ∀ (m : Nat) (i c : Int) (A B : pm_I), i + m = A 10 1 → 0 ≤ i → (0 ≤ c ∧ c ≤ i) → (∀ j, i ≤ j → j < A 10 1 → (0 ≤ f + j ∧ f + j < 64) ∧ 0 ≤ A (sh k + 1) (f + j) ∧ A (sh k + 1) (f + j) < A 4 0) → f_T_fillLines_5 X (sh k) f c i A = some (c', A') → Rl (mrg A B) → (∀ r, r < 77 → B r = A' r) →
    ∃ B', f_M_fill_131 X k f c i B = some (c', B') ∧ Rl (mrg A' B') ∧ ∀ r, r < 77 → B' r = A' r
  | 0, i, c, A, B, hm, i0, hc, hg, hT, hR, hB => by
    rw [e_T_fillLines_5, if_neg (by omega)] at hT
    simp only [Option.some.injEq, Prod.mk.injEq] at hT
    have l : B 77 4 = A 10 1 := hR.2.1.2.1.2.2
    refine ⟨B, ?_, by rw [← hT.2]; exact hR, hB⟩
    rw [e_M_fill_131, l, if_neg (by omega), hT.1]
  | m + 1, i, c, A, B, hm, i0, hc, hg, hT, hR, hB => by
    obtain ⟨hG, hBd, hTn, hW, hS, hV⟩ := id hR
    have l1 : B 77 4 = A 10 1 := hBd.2.1.2.2
    have l2 : A 10 1 ≤ 10 := hBd.2.1.2.1
    obtain ⟨t1, ⟨t2, t3, t4⟩, t5⟩ := id hTn
    have t2' : 0 ≤ A 43 0 ∧ A 43 0 ≤ 8 := t2
    have t4' : 0 ≤ A 43 1 ∧ A 43 1 < 8 := t4
    have t3' : B 77 14 = A 43 0 := t3
    have gi := hg i (by omega) (by omega)
    have s3 := (hS k hk.1 hk.2).2.2 (f + i) gi.1.1 gi.1.2
    rw [mrg_lo _ _ (by unfold sh; omega), mrg_hi _ _ (by omega), show 64 * k + (f + i) = 64 * k + f + i by omega] at s3
    have t1i : B 82 i = A 13 i := (t1 i i0 (by omega)).1
    obtain ⟨T1, T2⟩ := T_fill_1 (X := X) (A := A) (k := k) (f := f) (c := c) (i := i) hk t2' t4' l2 (by omega) (by omega) gi.1
    have e := e_M_fill_131 X k f c i B
    rw [l1, if_pos (by omega), if_pos (by omega), if_pos (by omega), if_pos (by omega), if_pos (by omega), if_pos (by omega), t1i, ← s3] at e
    by_cases z : A (sh k + 1) (f + i) = A 13 i
    · rw [if_pos z.symm, if_pos (by omega)] at e
      rw [e]
      exact M_fill_n hk m (i + 1) c A B (by omega) (by omega) (by omega) (fun j j0 j1 => hg j (by omega) j1) (by rw [← T1 z]; exact hT) hR hB
    · obtain ⟨J, j2, j3, j4, j5, j6⟩ := T2 z
      obtain ⟨M, m1, m2, m3, m4, m5⟩ := M_record (X := X) (I := B) (by rw [t3']; exact t2')
      rw [if_neg (fun y => z y.symm), m1] at e
      simp only [Option.bind_some] at e
      rw [if_pos (by omega), if_pos (by omega), if_pos (by omega)] at e
      rw [e]
      have oJ : ∀ r, r ≠ 43 → ¬ (45 ≤ r ∧ r < 53) → J r = A r := fun r h1 h2 => j2 r (by simp only [List.mem_cons, List.not_mem_nil, or_false]; omega)
      have oM : ∀ r, r ≠ 77 → r ≠ 88 → M r = B r := fun r h1 h2 => m2 r (by simp [h1, h2])
      generalize hA1 : pm_up J 13 i (A (sh k + 1) (f + i)) = A1 at j6
      generalize hB1 : pm_up M 82 i (A (sh k + 1) (f + i)) = B1
      have oA : ∀ r, r ≠ 13 → A1 r = J r := fun r h1 => by rw [← hA1, up_rw _ h1]
      have oB : ∀ r, r ≠ 82 → B1 r = M r := fun r h1 => by rw [← hB1, up_rw _ h1]
      have A13 : ∀ j, A1 13 j = if j = i then A (sh k + 1) (f + i) else A 13 j := fun j => by rw [← hA1, up_at, oJ 13 (by decide) (by omega)]
      have B82 : ∀ j, B1 82 j = if j = i then A (sh k + 1) (f + i) else B 82 j := fun j => by rw [← hB1, up_at, oM 82 (by decide) (by decide)]
      have A10 : A1 10 = A 10 := by rw [oA 10 (by decide), oJ 10 (by decide) (by omega)]
      have A4 : A1 4 = A 4 := by rw [oA 4 (by decide), oJ 4 (by decide) (by omega)]
      have ash : A1 (sh k + 1) = A (sh k + 1) := by rw [oA _ (by unfold sh; omega), oJ _ (by unfold sh; omega) (by unfold sh; omega)]
      have hF : fr [13, 43, 45, 46, 47, 48, 49, 50, 51, 52, 77, 82, 88, 16, 17, 94, 95, 96, 97, 98] (mrg A B) (mrg A1 B1) := fun r hr => by
        simp only [List.mem_cons, List.not_mem_nil, or_false] at hr
        by_cases y : r < 77
        · rw [mrg_lo _ _ y, mrg_lo _ _ y, oA r (by omega), oJ r (by omega) (by omega)]
        · rw [mrg_hi _ _ y, mrg_hi _ _ y, oB r (by omega), oM r (by omega) (by omega)]
      have A43 : A1 43 = J 43 := oA 43 (by decide)
      have B77 : B1 77 = M 77 := oB 77 (by decide)
      have B88 : B1 88 = M 88 := oB 88 (by decide)
      have hR1 : Rl (mrg A1 B1) := by
        refine hR.turns hF (fun j hj => ?_) (hTn.keep ?_ ?_ (fun j j0 j1 => ?_) ?_ ?_ (fun j j0 j9 => ?_) (fun r h1 h2 h3 => ?_) ?_ (fun u j u0 u1 j0 j9 => ?_))
        · show B1 77 j = B 77 j
          rw [B77]; exact m3 j hj
        · show A1 4 0 = A 4 0
          rw [A4]
        · show A1 10 1 = A 10 1
          rw [A10]
        · show B1 82 j = A1 13 j ∧ (0 ≤ A1 13 j ∧ A1 13 j < A1 4 0) ∧ (A1 10 1 ≤ j → A1 13 j = 0)
          rw [B82, A13, A4, A10]
          by_cases y : j = i
          · rw [if_pos y, if_pos y]; exact ⟨rfl, gi.2, fun q => by omega⟩
          · rw [if_neg y, if_neg y]; exact t1 j j0 j1
        · show A1 43 0 = min (A 43 0 + 1) 8
          rw [A43]; exact j4
        · show A1 43 1 = (A 43 1 + 1) % 8
          rw [A43]; exact j5
        · show mrg A1 B1 (45 + (A 43 1).toNat) j = A 13 j
          rw [mrg_lo _ _ (by omega), oA _ (by omega)]
          exact j3 j j0 j9
        · have h3' : r ≠ 45 + (A 43 1).toNat := h3
          rw [mrg_lo _ _ (by omega), mrg_lo _ _ (by omega), oA _ (by omega), j2 r (by simp only [List.mem_cons, List.not_mem_nil, or_false]; omega)]
        · show B1 77 14 = min (B 77 14 + 1) 8
          rw [B77]; exact m4
        · show B1 88 (10 * u + j) = if u = min (B 77 14) 7 then B 82 j else if B 77 14 = 8 then B 88 (10 * (u + 1) + j) else B 88 (10 * u + j)
          rw [B88]; exact m5 u j u0 u1 j0 j9
      refine M_fill_n hk m (i + 1) (c + 1) A1 B1 (by rw [A10]; omega) (by omega) (by omega) (fun j j0 j1 => ?_) (by rw [← j6]; exact hT) hR1 (fun r hr => ?_)
      · rw [A10] at j1
        rw [ash, A4]
        exact hg j (by omega) j1
      · rw [oB r (by omega), oM r (by omega) (by omega), hB r hr]
theorem T_fill_n (h : Rl I) {k f : Int} (hk : 0 ≤ k ∧ k < 4) (hg : ∀ j, 0 ≤ j → j < I 10 1 → (0 ≤ f + j ∧ f + j < 64) ∧ 0 ≤ I (sh k + 1) (f + j) ∧ I (sh k + 1) (f + j) < I 4 0) : ∃ c K, f_T_fillLines X (sh k) f I = some (c, K) ∧ ∀ r, ¬ r < 77 → K r = I r := by
  have l := h.2.1.2.1
  obtain ⟨-, ⟨t2, -, t4⟩, -⟩ := h.2.2.1
  obtain ⟨⟨c, K⟩, g1, g2, g3, g4, g5, g6⟩ := pl_loop (σ := Int × pm_I) (fun i s => f_T_fillLines_5 X (sh k) f s.1 i s.2) (I 10 1) (fun i s => 0 ≤ i ∧ (0 ≤ s.1 ∧ s.1 ≤ i) ∧ (0 ≤ s.2 43 0 ∧ s.2 43 0 ≤ 8) ∧ (0 ≤ s.2 43 1 ∧ s.2 43 1 < 8) ∧ ∀ r, r ≠ 43 → r ≠ 13 → ¬ (45 ≤ r ∧ r < 53) → s.2 r = I r) (fun i s hi hp => by
    obtain ⟨c, A⟩ := s
    obtain ⟨p0, p1, p2, p3, p4⟩ := hp
    have A10 : A 10 = I 10 := p4 10 (by decide) (by decide) (by omega)
    obtain ⟨T1, T2⟩ := T_fill_1 (X := X) (A := A) (k := k) (f := f) (c := c) (i := i) hk p2 p3 (by rw [A10]; exact l.2.1) (by rw [A10]; omega) (by simp only at p1; omega) (hg i p0 hi).1
    show ∃ s' : Int × pm_I, f_T_fillLines_5 X (sh k) f c i A = f_T_fillLines_5 X (sh k) f s'.1 (i + 1) s'.2 ∧ _
    simp only at p1 p2 p3 p4
    by_cases z : A (sh k + 1) (f + i) = A 13 i
    · exact ⟨(c, A), T1 z, by omega, by simp only; omega, p2, p3, p4⟩
    · obtain ⟨J, j2, j3, j4, j5, j6⟩ := T2 z
      generalize hA1 : pm_up J 13 i (A (sh k + 1) (f + i)) = A1 at j6
      have oA : ∀ r, r ≠ 13 → A1 r = J r := fun r h1 => by rw [← hA1, up_rw _ h1]
      refine ⟨(c + 1, A1), j6, by omega, by simp only; omega, ?_, ?_, fun r h1 h2 h3 => ?_⟩
      · show 0 ≤ A1 43 0 ∧ A1 43 0 ≤ 8
        rw [oA 43 (by decide), j4]; omega
      · show 0 ≤ A1 43 1 ∧ A1 43 1 < 8
        rw [oA 43 (by decide), j5]; omega
      · show A1 r = I r
        rw [oA r h2, j2 r (by simp only [List.mem_cons, List.not_mem_nil, or_false]; omega), p4 r h1 h2 h3]) (i := 0) (s := (0, I)) (by omega) ⟨Int.le_refl 0, by simp, t2, t4, fun _ _ _ _ => rfl⟩
  refine ⟨c, K, ?_, fun r hr => g6 r (by omega) (by omega) (by omega)⟩
  rw [e_T_fillLines]
  refine g1.trans ?_
  show f_T_fillLines_5 X (sh k) f c (I 10 1) K = _
  have K10 : K 10 = I 10 := g6 10 (by decide) (by decide) (by omega)
  rw [e_T_fillLines_5, K10, if_neg (by omega)]
/-- the fault of a filling, by both -/
theorem fill_fault (h : Rl I) {k f : Int} (hk : 0 ≤ k ∧ k < 4) (hf : pm_r32 f) : (∃ c, c ≠ 0 ∧ f_T_linesFault X (sh k) f I = some (c, I) ∧ f_M_fill_58 X k f 0 I = some (c, I)) ∨
    (f_T_linesFault X (sh k) f I = some (0, I) ∧ (∀ j, 0 ≤ j → j < I 10 1 → (0 ≤ f + j ∧ f + j < 64) ∧ 0 ≤ I (sh k + 1) (f + j) ∧ I (sh k + 1) (f + j) < I 4 0) ∧ ∀ J : pm_I, (∀ r, ¬ r < 77 → J r = I r) → f_M_fill_58 X k f 0 J = f_M_fill_131 X k f 0 0 J) := by
  obtain ⟨hG, hB, hT, hW, hS, hV⟩ := id h
  have l := hB.2.1
  have hn := hG.n
  obtain ⟨c1, c2, c3, c4⟩ := c_sh hk
  have c5 := c_shl X.2 hk
  obtain ⟨s1, s2, s3⟩ := hS k hk.1 hk.2
  rcases pl_loopQ (σ := Unit) (fun i _ => f_T_linesFault_2 X (sh k) f i I) (I 10 1) (fun i _ => 0 ≤ i ∧ (∀ j, 0 ≤ j → j < i → (0 ≤ f + j ∧ f + j < 64) ∧ 0 ≤ I (sh k + 1) (f + j) ∧ I (sh k + 1) (f + j) < I 4 0) ∧ ∀ J : pm_I, (∀ r, ¬ r < 77 → J r = I r) → f_M_fill_58 X k f 0 J = f_M_fill_58 X k f i J) (fun r => ∃ c, c ≠ 0 ∧ r = (c, I) ∧ f_M_fill_58 X k f 0 I = some (c, I)) (fun i _ hi hp => by
    obtain ⟨p0, p1, p2⟩ := hp
    show (∃ r, f_T_linesFault_2 X (sh k) f i I = some r ∧ _) ∨ ∃ s', f_T_linesFault_2 X (sh k) f i I = f_T_linesFault_2 X (sh k) f (i + 1) I ∧ _
    have hfi : pm_r32 (f + i) := by
      by_cases y : i = 0
      · rw [y, Int.add_zero]; exact hf
      · have := (p1 0 (by omega) (by omega)).1
        unfold pm_r32
        omega
    have hw : pm_w64 (f + i) = f + i := w64_id (by unfold pm_r32 at hfi; omega)
    have eT := e_T_linesFault_2 X (sh k) f i I
    rw [if_pos hi, if_pos hfi, c2, c3, c4, c5, S_hasCell hk, s2.1] at eT
    simp only [show Nat.beq 3 3 = true from rfl, show Nat.beq 8 8 = true from rfl, cond_true, Option.bind_some] at eT
    have eM := fun (J : pm_I) (hJ : ∀ r, ¬ r < 77 → J r = I r) => (p2 J hJ).trans (e_M_fill_58 X k f i J)
    have eM2 : ∀ (J : pm_I) (hJ : ∀ r, ¬ r < 77 → J r = I r), f_M_fill_58 X k f 0 J = if (if 0 ≤ f + i ∧ f + i ≤ I 90 k - 1 then (1 : Int) else 0) = 0 then some (-12, J) else if pm_r32 (64 * k + f) then if pm_r32 (64 * k + f + i) then if 0 ≤ 64 * k + f + i ∧ 64 * k + f + i < 256 then (f_M_isTurn X (I 91 (64 * k + f + i)) J).bind (fun x2 => if x2.1 = 0 then if pm_r32 (-20 - i) then some (-20 - i, x2.2) else none else if pm_r32 (i + 1) then f_M_fill_58 X k f (i + 1) x2.2 else none) else none else none else none := fun J hJ => by
      rw [eM J hJ, hJ 77 (by omega), hJ 90 (by omega), l.2.2, if_pos hi, if_pos hk, if_pos (by omega), hw, M_in]
      simp only [Option.bind_some]
      rw [if_pos (show pm_r32 (64 * k) by omega), hJ 91 (by omega)]
    by_cases y : 0 ≤ f + i ∧ f + i < I 90 k
    · rw [if_pos y, if_neg (by decide), if_pos hfi, if_pos (by omega), T_isTurn] at eT
      simp only [Option.bind_some] at eT
      have e91 : I 91 (64 * k + f + i) = I (sh k + 1) (f + i) := by
        rw [s3 (f + i) (by omega) (by omega)]
        congr 1
        omega
      have eM3 : ∀ (J : pm_I) (hJ : ∀ r, ¬ r < 77 → J r = I r), f_M_fill_58 X k f 0 J = if (if 0 ≤ I (sh k + 1) (f + i) ∧ I (sh k + 1) (f + i) < I 4 0 then (1 : Int) else 0) = 0 then some (-20 - i, J) else f_M_fill_58 X k f (i + 1) J := fun J hJ => by
        have e77 : J 77 = I 77 := hJ 77 (by omega)
        have e0 : J 77 0 = I 4 0 := by rw [e77]; exact hG.2.1
        rw [eM2 J hJ, if_pos (show 0 ≤ f + i ∧ f + i ≤ I 90 k - 1 by omega), if_neg (by decide), if_pos (by omega), if_pos (by omega), if_pos (by omega), M_isTurn (by omega), e91, e0]
        simp only [Option.bind_some]
        rw [if_pos (show pm_r32 (-20 - i) by omega), if_pos (show pm_r32 (i + 1) by omega)]
      by_cases x : 0 ≤ I (sh k + 1) (f + i) ∧ I (sh k + 1) (f + i) < I 4 0
      · right
        rw [if_pos x, if_neg (by decide), if_pos (by omega)] at eT
        refine ⟨(), eT, by omega, fun j j0 j1 => ?_, fun J hJ => ?_⟩
        · by_cases w : j = i
          · rw [w]; exact ⟨by omega, x⟩
          · exact p1 j j0 (by omega)
        · rw [eM3 J hJ, if_pos x, if_neg (by decide)]
      · left
        rw [if_neg x, if_pos rfl, if_pos (by omega)] at eT
        refine ⟨_, eT, -20 - i, by omega, rfl, ?_⟩
        rw [eM3 I (fun _ _ => rfl), if_neg x, if_pos rfl]
    · left
      rw [if_neg y, if_pos rfl] at eT
      refine ⟨_, eT, -12, by decide, rfl, ?_⟩
      rw [eM2 I (fun _ _ => rfl), if_neg (show ¬ (0 ≤ f + i ∧ f + i ≤ I 90 k - 1) by omega), if_pos rfl]) (i := 0) (s := ()) (by omega) ⟨Int.le_refl 0, fun j j0 j1 => by omega, fun _ _ => rfl⟩ with ⟨r, q1, c, q2, q3, q4⟩ | ⟨s, q1, q2, q3, q4⟩
  · left
    refine ⟨c, q2, ?_, q4⟩
    rw [e_T_linesFault]
    refine q1.trans ?_
    rw [q3]
  · right
    refine ⟨?_, q3, fun J hJ => ?_⟩
    · rw [e_T_linesFault]
      refine q1.trans ?_
      show f_T_linesFault_2 X (sh k) f (I 10 1) I = _
      rw [e_T_linesFault_2, if_neg (by omega)]
    · rw [q4 J hJ, e_M_fill_58, hJ 77 (by omega), l.2.2, if_neg (by omega)]
theorem ok_fill (h : Rl I) {k a f : Int} (hf : pm_r32 f) : Ok (f_T_fill X k a f) (f_M_fill X k a f) I := by
  obtain ⟨hG, hB, hT, hW, hS, hV⟩ := id h
  have hTk := T_isSheet (X := X) (I := I) (a := k)
  have hTa := T_isLane (X := X) (I := I) (a := a)
  by_cases hk : 0 ≤ k ∧ k < 4
  · rw [if_pos hk] at hTk
    by_cases ha : 0 ≤ a ∧ a < 3
    · rw [if_pos ha] at hTa
      obtain ⟨c1, c2, c3, c4⟩ := c_sh hk
      obtain ⟨s1, s2, s3⟩ := hS k hk.1 hk.2
      have eT := e_T_fill X k a f I
      rw [hTk] at eT
      simp only [Option.bind_some] at eT
      rw [if_neg (by decide), hTa] at eT
      simp only [Option.bind_some] at eT
      rw [if_neg (by decide), if_pos hk, c1, c2, e_S_faultAs, c2] at eT
      simp only [show Nat.beq 3 3 = true from rfl, cond_true] at eT
      have eM : ∀ J : pm_I, J 89 = I 89 → f_M_fill X k a f J = if I 89 k = a then f_M_fill_58 X k f 0 J else if I 89 k = -4 then some (-11, J) else some (-13, J) := fun J hJ => by
        rw [e_M_fill, M_in, if_pos (by omega)]
        simp only [Option.bind_some]
        rw [if_neg (by decide), M_in, if_pos (by omega)]
        simp only [Option.bind_some]
        rw [if_neg (by decide), if_pos hk, hJ, if_pos hk]
      rcases s1 with s1 | s1
      · refine ⟨-11, I, I, ?_, ?_, h⟩
        · rw [eT, if_pos s1.1]; rfl
        · rw [eM I rfl, if_neg (by omega), if_pos s1.2]
      · rw [if_neg (by omega)] at eT
        by_cases q : I (sh k) 2 = a
        · rw [if_pos q] at eT
          simp only [Option.bind_some] at eT
          rw [if_pos trivial] at eT
          have eM1 : ∀ J : pm_I, J 89 = I 89 → f_M_fill X k a f J = f_M_fill_58 X k f 0 J := fun J hJ => by rw [eM J hJ, if_pos (by omega)]
          rcases fill_fault (X := X) h hk hf with ⟨c, f1, f2, f3⟩ | ⟨f1, f2, f3⟩
          · refine ⟨c, I, I, ?_, ?_, h⟩
            · rw [eT, f2]
              simp only [Option.bind_some]
              rw [if_neg f1]
            · rw [eM1 I rfl, f3]
          · obtain ⟨c, K, k1, k2⟩ := T_fill_n (X := X) h hk f2
            rw [e_T_fillLines] at k1
            have hm : mrg I K = I := by
              funext r
              by_cases z : r < 77
              · rw [mrg_lo _ _ z]
              · rw [mrg_hi _ _ z, k2 r z]
            obtain ⟨B, b1, b2, b3⟩ := M_fill_n (X := X) hk (I 10 1).toNat 0 0 I K (by have := hB.2.1; omega) (by omega) (by omega) f2 k1 (by rw [hm]; exact h) (fun _ _ => rfl)
            refine ⟨c, K, B, ?_, ?_, by rw [mrg_eq b3] at b2; exact b2⟩
            · rw [eT, f1]
              simp only [Option.bind_some]
              rw [if_pos trivial, e_T_fillLines, k1]
              rfl
            · rw [eM1 K (k2 89 (by omega)), f3 K k2, b1]
        · rw [if_neg q] at eT
          refine ⟨-13, I, I, ?_, ?_, h⟩
          · rw [eT]; rfl
          · rw [eM I rfl, if_neg (by omega), if_neg (by omega)]
    · rw [if_neg ha] at hTa
      refine ⟨-1, I, I, ?_, ?_, h⟩
      · rw [e_T_fill, hTk]
        simp only [Option.bind_some]
        rw [if_neg (by decide), hTa]
        rfl
      · rw [e_M_fill, M_in, if_pos (by omega)]
        simp only [Option.bind_some]
        rw [if_neg (by decide), M_in, if_neg (by omega)]
        rfl
  · rw [if_neg hk] at hTk
    refine ⟨-1, I, I, ?_, ?_, h⟩
    · rw [e_T_fill, hTk]; rfl
    · rw [e_M_fill, M_in, if_neg (by omega)]; rfl
end FIL
