section OPT
variable {X : pm_XT} {I : pm_I}
theorem M_layTree_92 {n k a b : Int} {J : pm_I} (hn : 0 ≤ a ∧ 0 ≤ b) : ∃ J', f_M_layTree_92 X n k a b 0 J = f_M_layTree_92 X n k a b 6 J' ∧ fr [96] J J' ∧ ∀ p, 0 ≤ p → p < 6 → J' 96 p = if J 96 p = a ∨ J 96 p = b then min a b else J 96 p := by
  obtain ⟨K, h1, h2, h3, h4⟩ := pl_loop (fun i (K : pm_I) => f_M_layTree_92 X n k a b i K) 6 (fun i K => 0 ≤ i ∧ fr [96] J K ∧ ∀ p, K 96 p = if (0 ≤ p ∧ p < i) ∧ (J 96 p = a ∨ J 96 p = b) then min a b else J 96 p) (fun i K hi hp => by
    obtain ⟨p0, p1, p2⟩ := hp
    have ei : K 96 i = J 96 i := by rw [p2 i, if_neg (fun z => by omega)]
    show ∃ s', f_M_layTree_92 X n k a b i K = f_M_layTree_92 X n k a b (i + 1) s' ∧ _
    rw [e_M_layTree_92, ei, if_pos hi, if_pos (by omega)]
    have hyes : ∀ v, v = min a b → (J 96 i = a ∨ J 96 i = b) → 0 ≤ i + 1 ∧ fr [96] J (pm_up K 96 i v) ∧ ∀ p, pm_up K 96 i v 96 p = if (0 ≤ p ∧ p < i + 1) ∧ (J 96 p = a ∨ J 96 p = b) then min a b else J 96 p := fun v hv q => by
      refine ⟨by omega, p1.up (by decide), fun k => ?_⟩
      rw [up_at, p2 k]
      by_cases hk : k = i
      · subst hk
        rw [if_pos rfl, if_pos ⟨by omega, q⟩, hv]
      · rw [if_neg hk]
        by_cases hz : (0 ≤ k ∧ k < i) ∧ (J 96 k = a ∨ J 96 k = b)
        · rw [if_pos hz, if_pos ⟨by omega, hz.2⟩]
        · rw [if_neg hz, if_neg (fun z => hz ⟨by omega, z.2⟩)]
    by_cases qa : J 96 i = a
    · rw [if_pos qa]
      by_cases ab : a < b
      · rw [if_pos ab, if_pos (by omega), if_pos (by omega)]
        exact ⟨_, rfl, hyes _ (by omega) (Or.inl qa)⟩
      · rw [if_neg ab, if_pos (by omega), if_pos (by omega)]
        exact ⟨_, rfl, hyes _ (by omega) (Or.inl qa)⟩
    · rw [if_neg qa, if_pos (by omega)]
      by_cases qb : J 96 i = b
      · rw [if_pos qb]
        by_cases ab : a < b
        · rw [if_pos ab, if_pos (by omega), if_pos (by omega)]
          exact ⟨_, rfl, hyes _ (by omega) (Or.inr qb)⟩
        · rw [if_neg ab, if_pos (by omega), if_pos (by omega)]
          exact ⟨_, rfl, hyes _ (by omega) (Or.inr qb)⟩
      · rw [if_neg qb, if_pos (by omega), if_pos (by omega), if_pos (by omega)]
        refine ⟨_, rfl, by omega, p1.up (by decide), fun k => ?_⟩
        rw [up_at, p2 k]
        by_cases hk : k = i
        · subst hk
          rw [if_pos rfl, if_neg (fun z => z.2.elim qa qb)]
        · rw [if_neg hk]
          by_cases hz : (0 ≤ k ∧ k < i) ∧ (J 96 k = a ∨ J 96 k = b)
          · rw [if_pos hz, if_pos ⟨by omega, hz.2⟩]
          · rw [if_neg hz, if_neg (fun z => hz ⟨by omega, z.2⟩)]) (i := 0) (s := J) (by omega) ⟨Int.le_refl 0, fr.rf _ _, fun k => by rw [if_neg (fun z => by omega)]⟩
  refine ⟨K, h1, h3, fun p q0 q1 => ?_⟩
  rw [h4 p]
  by_cases z : J 96 p = a ∨ J 96 p = b
  · rw [if_pos ⟨⟨q0, q1⟩, z⟩, if_pos z]
  · rw [if_neg (fun y => z y.2), if_neg z]
/-- the reference's tree is the class's -/
theorem M_layTree (hB : RlB I) : ∃ J, f_M_layTree X I = some (I 10 2, J) ∧ fr [96, 97] I J ∧ (∀ p, 0 ≤ p → p < 6 → J 96 p = pt (I 11) (I 12) (I 10 1).toNat p) ∧ ∀ k, 0 ≤ k → k < I 10 1 → J 97 k = I 14 k := by
  obtain ⟨⟨p0, p1, p2⟩, ⟨l0, l1, l2⟩, b3, b4, b5, b6⟩ := hB
  obtain ⟨J0, h1, h2, h3, h4⟩ := pl_loop (fun i (J : pm_I) => f_M_layTree_4 X 0 i J) 6 (fun i J => 0 ≤ i ∧ fr [96, 97] I J ∧ ∀ p, 0 ≤ p → p < i → J 96 p = p) (fun i J hi hp => by
    obtain ⟨q0, q1, q2⟩ := hp
    show ∃ s', f_M_layTree_4 X 0 i J = f_M_layTree_4 X 0 (i + 1) s' ∧ _
    rw [e_M_layTree_4, if_pos hi, if_pos (by omega), if_pos (by omega)]
    refine ⟨_, rfl, by omega, q1.up (by decide), fun p z0 z1 => ?_⟩
    rw [up_at]
    by_cases hk : p = i
    · rw [if_pos hk, hk]
    · rw [if_neg hk]; exact q2 p z0 (by omega)) (i := 0) (s := I) (by omega) ⟨Int.le_refl 0, fr.rf _ _, fun p z0 z1 => by omega⟩
  obtain ⟨⟨c, J⟩, g1, g2, g3, g4, g5, g6⟩ := pl_loop (fun i (s : Int × pm_I) => f_M_layTree_25 X s.1 i s.2) (I 10 1) (fun i s => 0 ≤ i ∧ s.1 = cn (inT (I 11) (I 12)) i.toNat ∧ fr [96, 97] I s.2 ∧ (∀ p, 0 ≤ p → p < 6 → s.2 96 p = pt (I 11) (I 12) i.toNat p) ∧ ∀ k, 0 ≤ k → k < i → s.2 97 k = I 14 k) (fun i s hi hp => by
    obtain ⟨c, J⟩ := s
    obtain ⟨q0, q1, q2, q3, q4⟩ := hp
    have q1 : c = cn (inT (I 11) (I 12)) i.toNat := q1
    have q2 : fr [96, 97] I J := q2
    have q3 : ∀ p, 0 ≤ p → p < 6 → J 96 p = pt (I 11) (I 12) i.toNat p := q3
    have q4 : ∀ k, 0 ≤ k → k < i → J 97 k = I 14 k := q4
    have hc := cn_r (inT (I 11) (I 12)) i.toNat
    have hb := b3 i q0 hi
    have e80 : J 80 i = I 11 i := by rw [q2 80 (by decide)]; exact hb.1.1
    have e81 : J 81 i = I 12 i := by rw [q2 81 (by decide)]; exact hb.1.2
    have e77 : J 77 = I 77 := q2 77 (by decide)
    have ra := (pt_r (f := I 11) (t := I 12) (n := I 10 0) (j := i.toNat) (fun i hi => (b3 i (by omega) (by omega)).2) (I 11 i) hb.2.1.1).1
    have rb := (pt_r (f := I 11) (t := I 12) (n := I 10 0) (j := i.toNat) (fun i hi => (b3 i (by omega) (by omega)).2) (I 12 i) hb.2.2.1).1
    have ea := q3 (I 11 i) (by omega) (by omega)
    have eb := q3 (I 12 i) (by omega) (by omega)
    have eN : ((i.toNat : Nat) : Int) = i := by omega
    show ∃ s' : Int × pm_I, f_M_layTree_25 X c i J = f_M_layTree_25 X s'.1 (i + 1) s'.2 ∧ _
    rw [e_M_layTree_25, e77, l2, e80, e81, ea, eb, if_pos hi, if_pos (by omega), if_pos (by omega), if_pos (by omega), if_pos (by omega)]
    have fin : ∀ (v z : Int), z = (bif inT (I 11) (I 12) i then 1 else 0) → v = c + z → ∃ s' : Int × pm_I, f_M_layTree_92 X v i (pt (I 11) (I 12) i.toNat (I 11 i)) (pt (I 11) (I 12) i.toNat (I 12 i)) 0 (pm_up J 97 i z) = f_M_layTree_25 X s'.1 (i + 1) s'.2 ∧ 0 ≤ i + 1 ∧ s'.1 = cn (inT (I 11) (I 12)) (i + 1).toNat ∧ fr [96, 97] I s'.2 ∧ (∀ p, 0 ≤ p → p < 6 → s'.2 96 p = pt (I 11) (I 12) (i + 1).toNat p) ∧ ∀ k, 0 ≤ k → k < i + 1 → s'.2 97 k = I 14 k := fun v z hz hv => by
      obtain ⟨K, k1, k2, k3⟩ := M_layTree_92 (X := X) (n := v) (k := i) (a := pt (I 11) (I 12) i.toNat (I 11 i)) (b := pt (I 11) (I 12) i.toNat (I 12 i)) (J := pm_up J 97 i z) ⟨by omega, by omega⟩
      refine ⟨(v, K), ?_, by omega, ?_, ?_, ?_, ?_⟩
      · rw [k1, e_M_layTree_92, if_neg (by omega), if_pos (by omega)]
      · show v = _
        rw [show (i + 1).toNat = i.toNat + 1 by omega]
        show v = cn (inT (I 11) (I 12)) i.toNat + (bif inT (I 11) (I 12) ((i.toNat : Nat) : Int) then 1 else 0)
        rw [eN, ← hz, ← q1, hv]
      · exact (q2.up (by decide)).tr (k2.mono (by decide))
      · intro p z0 z1
        show K 96 p = _
        rw [k3 p z0 z1, up_rw _ (by decide), q3 p z0 z1, show (i + 1).toNat = i.toNat + 1 by omega]
        conv => rhs; unfold pt
        rw [eN]
      · intro k z0 z1
        show K 97 k = _
        rw [k2 97 (by decide), up_at]
        by_cases hk : k = i
        · rw [if_pos hk, hk, b5 i q0 hi, hz]
        · rw [if_neg hk]; exact q4 k z0 (by omega)
    have hin : inT (I 11) (I 12) i = decide (¬ pt (I 11) (I 12) i.toNat (I 11 i) = pt (I 11) (I 12) i.toNat (I 12 i)) := rfl
    by_cases q : pt (I 11) (I 12) i.toNat (I 11 i) = pt (I 11) (I 12) i.toNat (I 12 i)
    · rw [if_pos q, if_pos (by omega), if_pos q, if_pos (by omega)]
      exact fin _ 0 (by rw [hin, bif_dec, if_neg (fun w => w q)]) rfl
    · rw [if_neg q, if_pos (by omega), if_neg q, if_pos (by omega)]
      exact fin _ 1 (by rw [hin, bif_dec, if_pos q]) rfl) (i := 0) (s := (0, J0)) (by omega) ⟨Int.le_refl 0, rfl, h3, fun p z0 z1 => h4 p z0 z1, fun k z0 z1 => by omega⟩
  refine ⟨J, ?_, g4, g5, g6⟩
  rw [e_M_layTree]
  refine h1.trans ?_
  show f_M_layTree_4 X 0 6 J0 = _
  rw [e_M_layTree_4, if_neg (by omega)]
  refine g1.trans ?_
  show f_M_layTree_25 X c (I 10 1) J = _
  have g3 : c = cn (inT (I 11) (I 12)) (I 10 1).toNat := g3
  rw [e_M_layTree_25, (show J 77 = I 77 from g4 77 (by decide)), l2, if_neg (by omega), g3, ← b6]
theorem RlB.tl (h : RlB I) : 0 ≤ I 10 2 ∧ I 10 2 ≤ I 10 1 := by
  have := cn_r (inT (I 11) (I 12)) (I 10 1).toNat
  have h1 := h.2.2.2.2.2
  have h2 := h.2.1
  omega
theorem ok_tree (h : Rl I) {v : Int} : Ok (f_T_tree X v) (f_M_tree X v) I := by
  obtain ⟨hG, hB, hT, hW, hS, hV⟩ := id h
  have l := hB.2.1
  have hTa := T_isLine (X := X) (I := I) (a := v)
  have hMa := M_isLine (X := X) (I := I) (a := v) (by omega)
  rw [l.2.2] at hMa
  by_cases hv : 0 ≤ v ∧ v < I 10 1
  · rw [if_pos hv] at hTa hMa
    obtain ⟨J, j1, j2, j3, j4⟩ := M_layTree (X := X) hB
    have tl := hB.tl
    have h97 := j4 v hv.1 hv.2
    refine ⟨if I 14 v = 0 then 0 else 1, I, J, ?_, ?_, h.scr (j2.mono (by decide))⟩
    · rw [e_T_tree, hTa]
      simp only [Option.bind_some]
      rw [if_neg (by decide), if_pos (by omega)]
      by_cases q : I 14 v = 0
      · rw [if_pos q, if_pos q]
      · rw [if_neg q, if_neg q]
    · rw [e_M_tree, hMa]
      simp only [Option.bind_some]
      rw [if_neg (by decide), j1]
      simp only [Option.bind_some]
      rw [if_neg (by omega), if_pos (by omega), h97]
      by_cases q : I 14 v = 0
      · rw [if_pos q, if_pos q]
      · rw [if_neg q, if_neg q]
  · rw [if_neg hv] at hTa hMa
    refine ⟨-1, I, I, ?_, ?_, h⟩
    · rw [e_T_tree, hTa]; rfl
    · rw [e_M_tree, hMa]; rfl
end OPT
