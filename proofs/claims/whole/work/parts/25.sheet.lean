theorem shl24 (x : Int32) : (x <<< (24 : Int32)).toInt = (x.toInt * 16777216).bmod 4294967296 := by
  have e : x.toInt = ((x.toBitVec.toNat : Nat) : Int).bmod 4294967296 := by
    rw [← Int32.toInt_toBitVec, BitVec.toInt_eq_toNat_bmod]
  rw [e, Int.bmod_mul_bmod, ← Int32.toInt_toBitVec, Int32.toBitVec_shiftLeft]
  simp [Int.shiftLeft_eq]
theorem shr24 (x : Int32) : (x >>> (24 : Int32)).toInt = x.toInt / 16777216 := by
  rw [← Int32.toInt_toBitVec, Int32.toBitVec_shiftRight]
  simp [Int.shiftRight_eq_div_pow]
theorem shl16 (x : Int32) : (x <<< (16 : Int32)).toInt = (x.toInt * 65536).bmod 4294967296 := by
  have e : x.toInt = ((x.toBitVec.toNat : Nat) : Int).bmod 4294967296 := by
    rw [← Int32.toInt_toBitVec, BitVec.toInt_eq_toNat_bmod]
  rw [e, Int.bmod_mul_bmod, ← Int32.toInt_toBitVec, Int32.toBitVec_shiftLeft]
  simp [Int.shiftLeft_eq]
theorem shr16 (x : Int32) : (x >>> (16 : Int32)).toInt = x.toInt / 65536 := by
  rw [← Int32.toInt_toBitVec, Int32.toBitVec_shiftRight]
  simp [Int.shiftRight_eq_div_pow]
theorem bm8 (x : Int) : x.bmod (2 ^ 8) = if x % 256 < 128 then x % 256 else x % 256 - 256 := rfl
theorem bm16 (x : Int) : x.bmod (2 ^ 16) = if x % 65536 < 32768 then x % 65536 else x % 65536 - 65536 := rfl
theorem bm32 (x : Int) : x.bmod 4294967296 = if x % 4294967296 < 2147483648 then x % 4294967296 else x % 4294967296 - 4294967296 := rfl
theorem pm_b24 (v : Int) : pm_shr (pm_shl v 24) 24 = pm_i2b v := by
  unfold pm_shr pm_shl pm_i2b
  rw [pm_toI, show (Int32.ofInt 24 &&& 31) = 24 from rfl, shr24, shl24]
  simp only [Int8.toInt_toInt32, Int32.toInt_toInt8]
  generalize (Int32.ofInt v).toInt = x
  rw [bm8, bm32]
  split <;> split <;> omega
theorem pm_b16 (v : Int) : pm_shr (pm_shl v 16) 16 = pm_i2s v := by
  unfold pm_shr pm_shl pm_i2s
  rw [pm_toI, show (Int32.ofInt 16 &&& 31) = 16 from rfl, shr16, shl16]
  simp only [Int16.toInt_toInt32, Int32.toInt_toInt16]
  generalize (Int32.ofInt v).toInt = x
  rw [bm16, bm32]
  split <;> split <;> omega
section OSH
variable {X : pm_XT} {I : pm_I}
/-- a change of sheet k alone -/
theorem Rl.sheet (h : Rl I) {k : Int} {K : pm_I} (hk : 0 ≤ k ∧ k < 4) (f : fr [sh k, sh k + 1, 89, 90, 91] I K) (h89 : ∀ j, j ≠ k → K 89 j = I 89 j) (h90 : ∀ j, j ≠ k → K 90 j = I 90 j) (h91 : ∀ u i, 0 ≤ u → u < 4 → u ≠ k → 0 ≤ i → i < 64 → K 91 (64 * u + i) = I 91 (64 * u + i))
    (hs : ((K (sh k) 0 = 0 ∧ K 89 k = -4) ∨ (K (sh k) 0 = 1 ∧ K 89 k = K (sh k) 2 ∧ 0 ≤ K (sh k) 2 ∧ K (sh k) 2 ≤ 2)) ∧ (K (sh k) 1 = K 90 k ∧ 0 ≤ K 90 k ∧ K 90 k ≤ 64) ∧ ∀ i, 0 ≤ i → i < 64 → K (sh k + 1) i = K 91 (64 * k + i)) : Rl K := by
  obtain ⟨hG, hB, hT, hW, hS, hV⟩ := h
  have hsh : 54 ≤ sh k ∧ sh k ≤ 60 := by unfold sh; omega
  have g : ∀ r, r ∉ [89, 90, 91] → ¬ (54 ≤ r ∧ r < 62) → K r = I r := fun r h1 h2 => f r (by
    simp only [List.mem_cons, List.not_mem_nil, or_false] at h1 ⊢
    omega)
  have e10 := g 10 (by decide) (by omega)
  have e77 := g 77 (by decide) (by omega)
  have e4 := g 4 (by decide) (by omega)
  refine ⟨hG.cg (by rw [e4]) (g 6 (by decide) (by omega)) (g 7 (by decide) (by omega)) (g 8 (by decide) (by omega)) (by rw [e77]) (g 78 (by decide) (by omega)),
    hB.cg (by rw [e10]) (by rw [e10]) (by rw [e10]) (by rw [e77]) (by rw [e77]) (g 11 (by decide) (by omega)) (g 12 (by decide) (by omega)) (g 14 (by decide) (by omega)) (g 15 (by decide) (by omega)) (g 80 (by decide) (by omega)) (g 81 (by decide) (by omega)),
    hT.cg (by rw [e4]) (by rw [e10]) (g 13 (by decide) (by omega)) (g 82 (by decide) (by omega)) (g 43 (by decide) (by omega)) (fun r a b => g r (by simp only [List.mem_cons, List.not_mem_nil, or_false]; omega) (by omega)) (by rw [e77]) (g 88 (by decide) (by omega)),
    hW.cg (by rw [g 3 (by decide) (by omega)]) (by rw [e77]) (by rw [e10]) (by rw [e10]) (g 11 (by decide) (by omega)) (g 12 (by decide) (by omega)) (fun r a b => g r (by simp only [List.mem_cons, List.not_mem_nil, or_false]; omega) (by omega)) (g 83 (by decide) (by omega)) (g 84 (by decide) (by omega)) (g 85 (by decide) (by omega)) (g 86 (by decide) (by omega)) (g 87 (by decide) (by omega)), fun u u0 u1 => ?_,
    hV.cg (by rw [e4]) (g 9 (by decide) (by omega)) (g 79 (by decide) (by omega))⟩
  by_cases z : u = k
  · rw [z]; exact hs
  · have e0 : K (sh u) = I (sh u) := f _ (by simp only [List.mem_cons, List.not_mem_nil, or_false]; unfold sh; omega)
    have e1 : K (sh u + 1) = I (sh u + 1) := f _ (by simp only [List.mem_cons, List.not_mem_nil, or_false]; unfold sh; omega)
    rw [e0, e1, h89 u z, h90 u z]
    have q := hS u u0 u1
    exact ⟨q.1, q.2.1, fun i i0 i1 => by rw [h91 u i u0 u1 z i0 i1]; exact q.2.2 i i0 i1⟩
theorem S_renew {k : Int} (hk : 0 ≤ k ∧ k < 4) {a n : Int} : ∃ J, f_S_renew X (sh k) a n I = some (0, J) ∧ fr [sh k, sh k + 1] I J ∧ J (sh k) 0 = 1 ∧ J (sh k) 2 = a ∧ J (sh k) 1 = n ∧ ∀ i, 0 ≤ i → i < 64 → J (sh k + 1) i = 0 := by
  obtain ⟨c1, c2, c3, c4⟩ := c_sh hk
  have c5 := c_shl X.2 hk
  have n1 : sh k ≠ sh k + 1 := by omega
  generalize hL : pm_up (pm_up (pm_up I (sh k) 0 1) (sh k) 2 a) (sh k) 1 n = L
  obtain ⟨J, h1, h2, h3, h4⟩ := pl_loop (fun i (J : pm_I) => f_S_renew_17 X (sh k) i J) 64 (fun i J => 0 ≤ i ∧ fr [sh k + 1] L J ∧ ∀ j, 0 ≤ j → j < i → J (sh k + 1) j = 0) (fun i J hi hp => by
    obtain ⟨p0, p1, p2⟩ := hp
    show ∃ s', f_S_renew_17 X (sh k) i J = f_S_renew_17 X (sh k) (i + 1) s' ∧ _
    rw [e_S_renew_17, c2, c3, c4, c5, if_pos hi]
    simp only [show Nat.beq 3 3 = true from rfl, show Nat.beq 8 8 = true from rfl, cond_true]
    rw [if_pos (by omega), if_pos (by omega)]
    refine ⟨_, rfl, by omega, p1.up (by simp), fun j j0 j1 => ?_⟩
    rw [up_at]
    by_cases z : j = i
    · rw [if_pos z]
    · rw [if_neg z]; exact p2 j j0 (by omega)) (i := 0) (s := L) (by omega) ⟨Int.le_refl 0, fr.rf _ _, fun j j0 j1 => by omega⟩
  have e : J (sh k) = L (sh k) := h3 _ (by simp)
  refine ⟨J, ?_, ?_, ?_, ?_, ?_, h4⟩
  · rw [e_S_renew, c2]
    simp only [show Nat.beq 3 3 = true from rfl, cond_true]
    rw [hL]
    refine h1.trans ?_
    show f_S_renew_17 X (sh k) 64 J = _
    rw [e_S_renew_17, if_neg (by omega)]
  · refine fr.tr ?_ (h3.mono (by simp))
    rw [← hL]
    exact (((fr.rf _ I).up (by simp)).up (by simp)).up (by simp)
  · rw [e, ← hL]; simp [up_of]
  · rw [e, ← hL]; simp [up_of]
  · rw [e, ← hL]; simp [up_of]
theorem ok_sheet (h : Rl I) {k a n : Int} : Ok (f_T_sheet X k a n) (f_M_sheet X k a n) I := by
  obtain ⟨hG, hB, hT, hW, hS, hV⟩ := id h
  have hTk := T_isSheet (X := X) (I := I) (a := k)
  have hTa := T_isLane (X := X) (I := I) (a := a)
  by_cases hk : 0 ≤ k ∧ k < 4
  · rw [if_pos hk] at hTk
    by_cases ha : 0 ≤ a ∧ a < 3
    · rw [if_pos ha] at hTa
      by_cases hn : 64 < n
      · refine ⟨-1, I, I, ?_, ?_, h⟩
        · rw [e_T_sheet, hTk]
          simp only [Option.bind_some]
          rw [if_neg (by decide), hTa]
          simp only [Option.bind_some]
          rw [if_neg (by decide), if_pos hn]
        · rw [e_M_sheet, M_in, if_pos (by omega)]
          simp only [Option.bind_some]
          rw [if_neg (by decide), M_in, if_pos (by omega)]
          simp only [Option.bind_some]
          rw [if_neg (by decide), if_pos hn]
      · by_cases hn0 : n < 0
        · refine ⟨-14, I, I, ?_, ?_, h⟩
          · rw [e_T_sheet, hTk]
            simp only [Option.bind_some]
            rw [if_neg (by decide), hTa]
            simp only [Option.bind_some]
            rw [if_neg (by decide), if_neg hn, if_pos hn0]
          · rw [e_M_sheet, M_in, if_pos (by omega)]
            simp only [Option.bind_some]
            rw [if_neg (by decide), M_in, if_pos (by omega)]
            simp only [Option.bind_some]
            rw [if_neg (by decide), if_neg hn, if_pos hn0]
        · obtain ⟨c1, c2, c3, c4⟩ := c_sh hk
          have hsh : 54 ≤ sh k ∧ sh k ≤ 60 := by unfold sh; omega
          obtain ⟨J, j1, j2, j3, j4, j5, j6⟩ := S_renew (X := X) (I := I) hk (a := a) (n := n)
          have oJ : ∀ r, ¬ (54 ≤ r ∧ r < 62) → J r = I r := fun r hr => j2 r (by simp only [List.mem_cons, List.not_mem_nil, or_false]; omega)
          generalize hL : pm_up (pm_up J 89 k a) 90 k n = L
          obtain ⟨K, h1, h2, h3, h4⟩ := pl_loop (fun i (K : pm_I) => f_M_sheet_56 X k i K) 64 (fun i K => 0 ≤ i ∧ fr [91] L K ∧ ∀ j, K 91 j = if 64 * k ≤ j ∧ j < 64 * k + i then 0 else L 91 j) (fun i K hi hp => by
            obtain ⟨p0, p1, p2⟩ := hp
            show ∃ s', f_M_sheet_56 X k i K = f_M_sheet_56 X k (i + 1) s' ∧ _
            rw [e_M_sheet_56, if_pos hi, if_pos (by omega), if_pos (by omega), if_pos (by omega), if_pos (by omega)]
            refine ⟨_, rfl, by omega, p1.up (by decide), fun j => ?_⟩
            rw [up_at, p2 j]
            by_cases z : j = 64 * k + i
            · rw [if_pos z, if_pos (by omega)]
            · rw [if_neg z]
              by_cases y : 64 * k ≤ j ∧ j < 64 * k + i
              · rw [if_pos y, if_pos (by omega)]
              · rw [if_neg y, if_neg (by omega)]) (i := 0) (s := L) (by omega) ⟨Int.le_refl 0, fr.rf _ _, fun j => by rw [if_neg (by omega)]⟩
          have oL : ∀ r, r ≠ 89 → r ≠ 90 → L r = J r := fun r h1 h2 => by rw [← hL, up_rw _ h2, up_rw _ h1]
          have L89 : ∀ j, L 89 j = if j = k then a else I 89 j := fun j => by rw [← hL, up_rw _ (by decide), up_at, oJ 89 (by omega)]
          have L90 : ∀ j, L 90 j = if j = k then n else I 90 j := fun j => by rw [← hL, up_at, up_rw _ (by decide), oJ 90 (by omega)]
          have oK : ∀ r, r ≠ 91 → K r = L r := fun r hr => h3 r (by simp [hr])
          refine ⟨1, J, K, ?_, ?_, ?_⟩
          · rw [e_T_sheet, hTk]
            simp only [Option.bind_some]
            rw [if_neg (by decide), hTa]
            simp only [Option.bind_some]
            rw [if_neg (by decide), if_neg hn, if_neg hn0, if_pos hk, c1, c2, j1]
            rfl
          · rw [e_M_sheet, M_in, if_pos (by omega)]
            simp only [Option.bind_some]
            rw [if_neg (by decide), M_in, if_pos (by omega)]
            simp only [Option.bind_some]
            rw [if_neg (by decide), if_neg hn, if_neg hn0, if_pos hk, if_pos hk, hL]
            refine h1.trans ?_
            show f_M_sheet_56 X k 64 K = _
            rw [e_M_sheet_56, if_neg (by omega)]
          · have e0 : K (sh k) = J (sh k) := by rw [oK _ (by omega), oL _ (by omega) (by omega)]
            have e1 : K (sh k + 1) = J (sh k + 1) := by rw [oK _ (by omega), oL _ (by omega) (by omega)]
            have f : fr [sh k, sh k + 1, 89, 90, 91] I K := by
              refine (j2.mono (by simp)).tr (fr.tr ?_ (h3.mono (by simp)))
              rw [← hL]
              exact ((fr.rf _ J).up (by simp)).up (by simp)
            refine h.sheet hk f (fun j hj => by rw [oK 89 (by decide), L89, if_neg hj]) (fun j hj => by rw [oK 90 (by decide), L90, if_neg hj]) (fun u i u0 u1 u2 i0 i1 => by rw [h4, if_neg (by omega), oL 91 (by decide) (by decide), oJ 91 (by omega)]) ?_
            rw [e0, e1, j3, j4, j5, oK 89 (by decide), oK 90 (by decide), L89, L90, if_pos rfl, if_pos rfl]
            refine ⟨Or.inr ⟨rfl, rfl, by omega, by omega⟩, ⟨rfl, by omega, by omega⟩, fun i i0 i1 => ?_⟩
            rw [j6 i i0 i1, h4, if_pos (by omega)]
    · rw [if_neg ha] at hTa
      refine ⟨-1, I, I, ?_, ?_, h⟩
      · rw [e_T_sheet, hTk]
        simp only [Option.bind_some]
        rw [if_neg (by decide), hTa]
        rfl
      · rw [e_M_sheet, M_in, if_pos (by omega)]
        simp only [Option.bind_some]
        rw [if_neg (by decide), M_in, if_neg (by omega)]
        rfl
  · rw [if_neg hk] at hTk
    refine ⟨-1, I, I, ?_, ?_, h⟩
    · rw [e_T_sheet, hTk]; rfl
    · rw [e_M_sheet, M_in, if_neg (by omega)]; rfl
theorem S_hasCell {k : Int} (hk : 0 ≤ k ∧ k < 4) {i : Int} : f_S_hasCell X (sh k) i I = some (if 0 ≤ i ∧ i < I (sh k) 1 then 1 else 0, I) := by
  rw [e_S_hasCell, (c_sh hk).2.1]
  simp only [show Nat.beq 3 3 = true from rfl, cond_true]
  by_cases z : i < 0
  · rw [if_pos z, if_neg (by omega)]
  · rw [if_neg z]
    by_cases y : i < I (sh k) 1
    · rw [if_pos y, if_pos (by omega)]
    · rw [if_neg y, if_neg (by omega)]
/-- what is laid, by the lane -/
def layv (a v : Int) : Int := if a = 0 then pm_i2b v else if a = 1 then pm_i2s v else v
theorem ok_lay (h : Rl I) {k i v : Int} : Ok (f_T_lay X k i v) (f_M_lay X k i v) I := by
  obtain ⟨hG, hB, hT, hW, hS, hV⟩ := id h
  have hTk := T_isSheet (X := X) (I := I) (a := k)
  by_cases hk : 0 ≤ k ∧ k < 4
  · rw [if_pos hk] at hTk
    obtain ⟨c1, c2, c3, c4⟩ := c_sh hk
    have c5 := c_shl X.2 hk
    have hsh : 54 ≤ sh k ∧ sh k ≤ 60 := by unfold sh; omega
    obtain ⟨s1, s2, s3⟩ := hS k hk.1 hk.2
    rcases s1 with s1 | s1
    · refine ⟨-11, I, I, ?_, ?_, h⟩
      · rw [e_T_lay, hTk]
        simp only [Option.bind_some]
        rw [if_neg (by decide), if_pos hk, c1, c2]
        simp only [show Nat.beq 3 3 = true from rfl, cond_true]
        rw [if_pos s1.1]
      · rw [e_M_lay, M_in, if_pos (by omega)]
        simp only [Option.bind_some]
        rw [if_neg (by decide), if_pos hk, if_pos s1.2]
    · by_cases hi : 0 ≤ i ∧ i < I (sh k) 1
      · have eT : f_T_lay X k i v I = some (1, pm_up I (sh k + 1) i (layv (I (sh k) 2) v)) := by
          have hp : f_S_put X (sh k) i v I = some (0, pm_up I (sh k + 1) i (layv (I (sh k) 2) v)) := by
            rw [e_S_put, c2, c3, c4, c5]
            simp only [show Nat.beq 3 3 = true from rfl, show Nat.beq 8 8 = true from rfl, cond_true, if_pos (show 0 ≤ i ∧ i < 64 by omega)]
            unfold layv
            by_cases z : I (sh k) 2 = 0
            · rw [if_pos z, if_pos z]
            · rw [if_neg z, if_neg z]
              by_cases y : I (sh k) 2 = 1
              · rw [if_pos y, if_pos y]
              · rw [if_neg y, if_neg y]
          rw [e_T_lay, hTk]
          simp only [Option.bind_some]
          rw [if_neg (by decide), if_pos hk, c1, c2]
          simp only [show Nat.beq 3 3 = true from rfl, cond_true]
          rw [if_neg (by omega), S_hasCell hk, if_pos hi]
          simp only [Option.bind_some]
          rw [if_neg (by decide), hp]
          rfl
        generalize hJ : pm_up I (sh k + 1) i (layv (I (sh k) 2) v) = J at eT
        have oJ : ∀ r, r ≠ sh k + 1 → J r = I r := fun r hr => by rw [← hJ, up_rw _ hr]
        have J89 := oJ 89 (by omega)
        have J90 := oJ 90 (by omega)
        have eM : f_M_lay X k i v J = some (1, pm_up J 91 (64 * k + i) (layv (I (sh k) 2) v)) := by
          rw [e_M_lay, M_in, if_pos (by omega)]
          simp only [Option.bind_some]
          rw [if_neg (by decide), if_pos hk, J89, J90, if_neg (by omega), if_pos hk, if_pos (by omega), M_in, if_pos (by omega)]
          simp only [Option.bind_some, J89, if_pos hk, if_pos (show 0 ≤ 64 * k + i ∧ 64 * k + i < 256 by omega), pm_b24, pm_b16]
          rw [if_neg (by decide), if_pos (by omega), if_pos (by omega), s1.2.1]
          unfold layv
          by_cases z : I (sh k) 2 = 0
          · rw [if_pos z, if_pos z]
          · rw [if_neg z, if_neg z]
            by_cases y : I (sh k) 2 = 1
            · rw [if_pos y, if_pos y]
            · rw [if_neg y, if_neg y]
        refine ⟨_, _, _, eT, eM, ?_⟩
        generalize hK : pm_up J 91 (64 * k + i) (layv (I (sh k) 2) v) = K
        have oK : ∀ r, r ≠ 91 → K r = J r := fun r hr => by rw [← hK, up_rw _ hr]
        have K91 : ∀ j, K 91 j = if j = 64 * k + i then layv (I (sh k) 2) v else I 91 j := fun j => by rw [← hK, up_at, oJ 91 (by omega)]
        have K1 : ∀ j, K (sh k + 1) j = if j = i then layv (I (sh k) 2) v else I (sh k + 1) j := fun j => by rw [oK _ (by omega), ← hJ, up_at]
        have K0 : K (sh k) = I (sh k) := by rw [oK _ (by omega), oJ _ (by omega)]
        have f : fr [sh k, sh k + 1, 89, 90, 91] I K := by
          rw [← hK, ← hJ]
          exact ((fr.rf _ I).up (by simp)).up (by simp)
        refine h.sheet hk f (fun j _ => by rw [oK 89 (by decide), J89]) (fun j _ => by rw [oK 90 (by decide), J90]) (fun u j u0 u1 u2 j0 j1 => by rw [K91, if_neg (by omega)]) ?_
        rw [K0, oK 89 (by decide), oK 90 (by decide), J89, J90]
        refine ⟨Or.inr s1, s2, fun j j0 j1 => ?_⟩
        rw [K1, K91]
        by_cases z : j = i
        · rw [if_pos z, if_pos (by omega)]
        · rw [if_neg z, if_neg (by omega)]; exact s3 j j0 j1
      · refine ⟨-12, I, I, ?_, ?_, h⟩
        · rw [e_T_lay, hTk]
          simp only [Option.bind_some]
          rw [if_neg (by decide), if_pos hk, c1, c2]
          simp only [show Nat.beq 3 3 = true from rfl, cond_true]
          rw [if_neg (by omega), S_hasCell hk, if_neg hi]
          rfl
        · rw [e_M_lay, M_in, if_pos (by omega)]
          simp only [Option.bind_some]
          rw [if_neg (by decide), if_pos hk, if_neg (by omega), if_pos hk, if_pos (by omega), M_in, if_neg (by omega)]
          rfl
  · rw [if_neg hk] at hTk
    refine ⟨-1, I, I, ?_, ?_, h⟩
    · rw [e_T_lay, hTk]; rfl
    · rw [e_M_lay, M_in, if_neg (by omega)]; rfl
end OSH
