/-! THE REFERENCE'S SUMS -/
theorem wtt_fr {I K : pm_I} (f : fr scr I K) {w : Int} (w8 : 0 ≤ w ∧ w < 8) (t : Int → Int) : wtt K t w = wtt I t w := by
  unfold wtt gP
  rw [f 6 (by decide), f 7 (by decide), f 84 (by decide), f (wk w + 1) (scr_n (by unfold wk; omega)), f (wk w + 2) (scr_n (by unfold wk; omega))]
theorem wgh_fr {I K : pm_I} (f : fr scr I K) (w : Int) : wgh K w ↔ wgh I w := by
  unfold wgh cld
  rw [endv.cg (f 11 (by decide)) (f 12 (by decide)) (f 83 (by decide)) (f 84 (by decide)) (f 85 (by decide)) (f 86 (by decide)), f 83 (by decide), f 84 (by decide), f 87 (by decide)]
theorem fW_fr {I K : pm_I} (f : fr scr I K) {w : Int} (w8 : 0 ≤ w ∧ w < 8) (t : Int → Int) : fW K t w = fW I t w := by
  unfold fW
  rw [f 3 (by decide), f 9 (by decide), wtt_fr f w8]
  by_cases z : w < I 3 3 ∧ wgh I w
  · rw [if_pos z, if_pos ⟨z.1, (wgh_fr f w).mpr z.2⟩]
  · rw [if_neg z, if_neg (fun y => z ⟨y.1, (wgh_fr f w).mp y.2⟩)]
theorem fS_fr {I K : pm_I} (f : fr scr I K) {w : Int} (w8 : 0 ≤ w ∧ w < 8) (t : Int → Int) : fS K t w = fS I t w := by
  unfold fS
  rw [f 3 (by decide), wtt_fr f w8]
  by_cases z : w < I 3 3 ∧ wgh I w
  · rw [if_pos z, if_pos ⟨z.1, (wgh_fr f w).mpr z.2⟩]
  · rw [if_neg z, if_neg (fun y => z ⟨y.1, (wgh_fr f w).mp y.2⟩)]
theorem Gw_fr {I K : pm_I} (f : fr scr I K) : Gw K = Gw I := funext (fun t => pp_congr (fun i hi => fW_fr f (by omega) t))
theorem Gs_fr {I K : pm_I} (f : fr scr I K) : Gs K = Gs I := funext (fun t => pp_congr (fun i hi => fS_fr f (by omega) t))
theorem Gc_fr {I K : pm_I} (f : fr scr I K) {v : Int} (v8 : 0 ≤ v ∧ v < 8) (c : Int) : Gc K v c = Gc I v c := funext (fun t => by
  unfold Gc
  rw [f 8 (by decide), wtt_fr f v8, Gw_fr f])
theorem SA_fr {I K : pm_I} (f : fr scr I K) (G : (Int → Int) → Int) : SA K G = SA I G := by
  show SM G (K 4 0).toNat (inT (K 11) (K 12)) (K 10 1).toNat 0 (fun _ => 0) = SM G (I 4 0).toNat (inT (I 11) (I 12)) (I 10 1).toNat 0 (fun _ => 0)
  rw [f 4 (by decide), f 11 (by decide), f 12 (by decide), f 10 (by decide)]
theorem pp_b {f : Int → Int} : ∀ {k : Nat}, (∀ i : Nat, i < k → 0 ≤ f i ∧ f i ≤ 9) → 0 ≤ pp f k ∧ pp f k ≤ 9 ^ k
  | 0, _ => ⟨by show (0 : Int) ≤ 1; omega, by show (1 : Int) ≤ 1; omega⟩
  | k + 1, h => by
    have ih := pp_b (f := f) (k := k) (fun i hi => h i (by omega))
    show 0 ≤ pp f k * f k ∧ pp f k * f k ≤ 9 ^ k * 9
    exact mul_b ih (h k (by omega))
theorem up_ud (A : pm_I) (r : Nat) (j x : Int) : pm_up A r j x r = ud (A r) j x := by
  funext b
  rw [up_at]
  rfl
theorem asg_in {n : Nat} {tr : Int → Bool} (hn : 0 < n) : ∀ {d : Nat} {j v : Int} {t : Int → Int}, (∀ k, 0 ≤ k → k < j → 0 ≤ t k ∧ t k < n) → ∀ k, 0 ≤ k → k < j + d → 0 ≤ asg n tr d j v t k ∧ asg n tr d j v t k < n
  | 0, j, v, t, h, k, k0, k1 => h k k0 (by omega)
  | d + 1, j, v, t, h, k, k0, k1 => by
    show 0 ≤ (bif tr j then asg n tr d (j + 1) v (ud t j 0) else asg n tr d (j + 1) (v / n) (ud t j (v % n))) k ∧ (bif tr j then asg n tr d (j + 1) v (ud t j 0) else asg n tr d (j + 1) (v / n) (ud t j (v % n))) k < n
    have hm : 0 ≤ v % (n : Int) ∧ v % (n : Int) < n := ⟨Int.emod_nonneg _ (by omega), Int.emod_lt_of_pos _ (by omega)⟩
    cases tr j with
    | true => exact asg_in hn (ud_in h (by omega)) k k0 (by omega)
    | false => exact asg_in hn (ud_in h hm) k k0 (by omega)
theorem asg_cg {n : Nat} {tr : Int → Bool} : ∀ {d : Nat} {j v : Int} {t t' : Int → Int}, (∀ k, 0 ≤ k → k < j → t k = t' k) → ∀ k, 0 ≤ k → k < j + d → asg n tr d j v t k = asg n tr d j v t' k
  | 0, j, v, t, t', h, k, k0, k1 => h k k0 (by omega)
  | d + 1, j, v, t, t', h, k, k0, k1 => by
    have hu : ∀ a k, 0 ≤ k → k < j + 1 → ud t j a k = ud t' j a k := fun a k k0 k1 => by
      unfold ud
      by_cases z : k = j
      · rw [if_pos z, if_pos z]
      · rw [if_neg z, if_neg z]; exact h k k0 (by omega)
    show (bif tr j then asg n tr d (j + 1) v (ud t j 0) else asg n tr d (j + 1) (v / n) (ud t j (v % n))) k = (bif tr j then asg n tr d (j + 1) v (ud t' j 0) else asg n tr d (j + 1) (v / n) (ud t' j (v % n))) k
    cases tr j with
    | true => exact asg_cg (hu 0) k k0 (by omega)
    | false => exact asg_cg (hu _) k k0 (by omega)
abbrev inr (I : pm_I) (t : Int → Int) : Prop := ∀ k, 0 ≤ k → k < I 10 1 → 0 ≤ t k ∧ t k < I 4 0
section MSN
variable {X : pm_XT} {I : pm_I}
theorem wtt_cg (hR : Rl I) {w : Int} (hw : 0 ≤ w ∧ w < I 3 3) {t t' : Int → Int} (e : ∀ k, 0 ≤ k → k < I 10 1 → t k = t' k) : wtt I t w = wtt I t' w := by
  have q4 := (hR.2.2.2.1.2 w hw.1 hw.2).2.2.2.1
  exact wt_ct (fun s hs => by
    have z := (q4 s (by omega) (by omega)).1
    rw [z.1]
    exact e _ z.2.1 z.2.2)
theorem Gw_cg (hR : Rl I) {t t' : Int → Int} (e : ∀ k, 0 ≤ k → k < I 10 1 → t k = t' k) : Gw I t = Gw I t' := pp_congr (fun i hi => by
  unfold fW
  by_cases z : (i : Int) < I 3 3 ∧ wgh I i
  · rw [if_pos z, if_pos z, wtt_cg hR ⟨by omega, z.1⟩ e]
  · rw [if_neg z, if_neg z])
theorem Gs_cg (hR : Rl I) {t t' : Int → Int} (e : ∀ k, 0 ≤ k → k < I 10 1 → t k = t' k) : Gs I t = Gs I t' := pp_congr (fun i hi => by
  unfold fS
  by_cases z : (i : Int) < I 3 3 ∧ wgh I i
  · rw [if_pos z, if_pos z, wtt_cg hR ⟨by omega, z.1⟩ e]
  · rw [if_neg z, if_neg z])
theorem Gw_b (hR : Rl I) {t : Int → Int} (ht : inr I t) : 0 ≤ Gw I t ∧ Gw I t ≤ 43046721 := by
  have hV := hR.2.2.2.2.2
  have q := pp_b (f := fW I t) (k := 8) (fun i hi => by
    unfold fW
    by_cases z : (i : Int) < I 3 3 ∧ wgh I i
    · rw [if_pos z]
      have r := wtt_r hR ⟨by omega, z.1⟩ ht
      exact (hV _ r.1 r.2).2
    · rw [if_neg z]; omega)
  exact ⟨q.1, q.2⟩
theorem Gs_b (_ : Rl I) {t : Int → Int} : 0 ≤ Gs I t ∧ Gs I t ≤ 43046721 := by
  have q := pp_b (f := fS I t) (k := 8) (fun i hi => by
    unfold fS
    by_cases z : (i : Int) < I 3 3 ∧ wgh I i
    · rw [if_pos z]
      split <;> omega
    · rw [if_neg z]; omega)
  exact ⟨q.1, q.2⟩
theorem Gc_b (hR : Rl I) {v c : Int} {t : Int → Int} (ht : inr I t) : 0 ≤ Gc I v c t ∧ Gc I v c t ≤ 43046721 := by
  have q := Gw_b hR ht
  unfold Gc
  by_cases z : I 8 (wtt I t v) = I 8 c
  · rw [if_pos z, Int.one_mul]; exact q
  · rw [if_neg z, Int.zero_mul]; omega
theorem M_isFlat (h : Rl I) (hb : ∀ a, 0 ≤ a → a < I 4 0 → I 94 a = I 7 a) (ht : inr I (I 93)) : f_M_isFlat X I = some (Gs I (I 93), I) := by
  obtain ⟨hG, hB, hT, hW, hS, hV⟩ := id h
  have wb := hW.1
  have l := hB.2.1
  have hn := hG.n
  obtain ⟨x, g1, g2, g3, g4⟩ := pl_loop (fun i (x : Int) => f_M_isFlat_4 X x i I) (I 3 3) (fun i x => 0 ≤ i ∧ x = pp (fS I (I 93)) i.toNat ∧ (x = 0 ∨ x = 1)) (fun i x hi hp => by
    obtain ⟨p0, p1, p2⟩ := hp
    have w8 : 0 ≤ i ∧ i < 8 := by omega
    have hw1 := hW.2 i p0 hi
    have hq := M_isClosed (X := X) hB w8 hw1
    have tW := M_turnOf (X := X) hG w8 hw1 l.2.1 hb ht
    have e : pp (fS I (I 93)) (i + 1).toNat = x * fS I (I 93) i := by
      rw [show (i + 1).toNat = i.toNat + 1 by omega, p1]
      show pp (fS I (I 93)) i.toNat * fS I (I 93) ((i.toNat : Nat) : Int) = _
      rw [show ((i.toNat : Nat) : Int) = i by omega]
    show ∃ s', f_M_isFlat_4 X x i I = f_M_isFlat_4 X s' (i + 1) I ∧ _
    rw [e_M_isFlat_4, wb.2.2, if_pos hi]
    by_cases x0 : x = 0
    · rw [if_pos x0, if_pos (by omega)]
      exact ⟨0, rfl, by omega, by rw [e, x0, Int.zero_mul], Or.inl rfl⟩
    · have x1 : x = 1 := by omega
      rw [x1, Int.one_mul] at e
      rw [if_neg x0, if_pos w8]
      by_cases y : I 87 i = 0
      · rw [if_pos y, if_pos (by omega)]
        refine ⟨1, rfl, by omega, ?_, Or.inr rfl⟩
        rw [e]
        unfold fS
        rw [if_neg (fun z => z.2.1 y)]
      · rw [if_neg y]
        by_cases c : cld I i
        · rw [hq.1 c]
          simp only [Option.bind_some]
          rw [if_neg (by decide), tW]
          simp only [Option.bind_some]
          by_cases t0 : wtn I 93 i = 0
          · have t0' : wtt I (I 93) i = 0 := t0
            rw [if_pos t0, if_pos (by omega)]
            refine ⟨1, rfl, by omega, ?_, Or.inr rfl⟩
            rw [e]
            unfold fS
            rw [if_pos ⟨hi, y, c⟩, if_pos t0']
          · have t0' : ¬ wtt I (I 93) i = 0 := t0
            rw [if_neg t0, if_pos (by omega)]
            refine ⟨0, rfl, by omega, ?_, Or.inl rfl⟩
            rw [e]
            unfold fS
            rw [if_pos ⟨hi, y, c⟩, if_neg t0']
        · rw [hq.2 c]
          simp only [Option.bind_some]
          rw [if_pos trivial, if_pos (by omega)]
          refine ⟨1, rfl, by omega, ?_, Or.inr rfl⟩
          rw [e]
          unfold fS
          rw [if_neg (fun z => c z.2.2)]) (i := 0) (s := 1) (by omega) ⟨Int.le_refl 0, rfl, Or.inr rfl⟩
  rw [e_M_isFlat]
  refine g1.trans ?_
  show f_M_isFlat_4 X x (I 3 3) I = _
  rw [e_M_isFlat_4, wb.2.2, if_neg (by omega), if_pos g4, g3]
  have t := pp_tail (f := fS I (I 93)) (m := (I 3 3).toNat) (d := 8 - (I 3 3).toNat) (fun i a b => by
    unfold fS
    rw [if_neg (fun y => by omega)])
  rw [show (I 3 3).toNat + (8 - (I 3 3).toNat) = 8 by omega] at t
  unfold Gs
  rw [t]
/-- the digits of a number laid into the lines -/
theorem M_dig (hR : Rl I) {s w c t N w8 v10 : Int} : ∀ (d : Nat) (j v : Int) (A : pm_I), j + d = I 10 1 → 0 ≤ j → 0 ≤ v → fr scr I A → (∀ k, 0 ≤ k → k < I 10 1 → A 97 k = I 14 k) →
    ∃ v' A', f_M_summed_93 X s w c t N w8 v10 v j A = f_M_summed_93 X s w c t N w8 v10 v' (I 10 1) A' ∧ fr [93] A A' ∧ A' 93 = asg (I 4 0).toNat (inT (I 11) (I 12)) d j v (A 93)
  | 0, j, v, A, hd, j0, v0, f, h97 => ⟨v, A, by rw [show j = I 10 1 by omega], fr.rf _ _, rfl⟩
  | d + 1, j, v, A, hd, j0, v0, f, h97 => by
    obtain ⟨hG, hB, hT, hW, hS, hV⟩ := id hR
    have l := hB.2.1
    have hn := hG.n
    have nN : (((I 4 0).toNat : Nat) : Int) = I 4 0 := by omega
    have b14 := hB.2.2.2.2.1 j j0 (by omega)
    have b97 := h97 j j0 (by omega)
    have e := e_M_summed_93 X s w c t N w8 v10 v j A
    have eA : asg (I 4 0).toNat (inT (I 11) (I 12)) (d + 1) j v (A 93) = bif inT (I 11) (I 12) j then asg (I 4 0).toNat (inT (I 11) (I 12)) d (j + 1) v (ud (A 93) j 0) else asg (I 4 0).toNat (inT (I 11) (I 12)) d (j + 1) (v / ((I 4 0).toNat : Nat)) (ud (A 93) j (v % ((I 4 0).toNat : Nat))) := rfl
    have go : ∀ (x u : Int), 0 ≤ u → ∃ v' A', f_M_summed_93 X s w c t N w8 v10 u (j + 1) (pm_up A 93 j x) = f_M_summed_93 X s w c t N w8 v10 v' (I 10 1) A' ∧ fr [93] A A' ∧ A' 93 = asg (I 4 0).toNat (inT (I 11) (I 12)) d (j + 1) u (ud (A 93) j x) := fun x u u0 => by
      obtain ⟨v', A', a1, a2, a3⟩ := M_dig hR d (j + 1) u (pm_up A 93 j x) (by omega) (by omega) u0 (f.up (by decide)) (fun k k0 k1 => by rw [up_rw _ (by decide)]; exact h97 k k0 k1)
      rw [up_ud] at a3
      exact ⟨v', A', a1, ((fr.rf [93] A).up (by decide)).tr a2, a3⟩
    rw [f 77 (by decide), l.2.2, hG.2.1, if_pos (by omega), if_pos (by omega)] at e
    cases hq : inT (I 11) (I 12) j with
    | true =>
      rw [hq] at b14 eA
      rw [cond_true] at b14 eA
      have n0 : ¬ A 97 j = 0 := by omega
      rw [if_neg n0, if_pos (by omega), if_pos (by omega), up_rw _ (by decide), if_neg n0, if_pos (by omega), if_pos (by omega), Int.ediv_one] at e
      rw [e, eA]
      exact go 0 v v0
    | false =>
      rw [hq] at b14 eA
      rw [cond_false] at b14 eA
      have n0 : A 97 j = 0 := by omega
      rw [if_pos n0, if_pos (by omega), if_pos (by omega), if_pos (by omega), up_rw _ (by decide), if_pos n0, up_rw _ (by decide), f 77 (by decide), hG.2.1, if_pos (by omega), if_pos (by omega)] at e
      rw [e, eA, nN]
      exact go (v % I 4 0) (v / I 4 0) (Int.ediv_nonneg v0 (by omega))
theorem M_summed (hR : Rl I) {s w c : Int} {G : (Int → Int) → Int} (hb : ∀ t, inr I t → 0 ≤ G t ∧ G t ≤ 43046721) (hcg : ∀ t t' : Int → Int, (∀ k, 0 ≤ k → k < I 10 1 → t k = t' k) → G t = G t')
    (hstep : ∀ K : pm_I, fr scr I K → (∀ a, 0 ≤ a → a < I 4 0 → K 94 a = I 7 a) → (∀ a, 0 ≤ a → a < I 4 0 → K 99 a = I 8 a) → inr I (K 93) → ∀ t N w8 v10 v11 : Int, 0 ≤ w8 → w8 ≤ 40000 * 43046721 → 0 ≤ v10 → v10 < 40000 → f_M_summed_93 X s w c t N w8 v10 v11 (I 10 1) K = f_M_summed_77 X s w c t N (w8 + G (K 93)) (v10 + 1) K) :
    ∃ J, f_M_summed X s w c I = some (if 40000 < (I 4 0) ^ (I 10 1 - I 10 2).toNat then -6 else SA I G, J) ∧ fr scr I J := by
  obtain ⟨hG, hB, hT, hW, hS, hV⟩ := id hR
  have l := hB.2.1
  have hn := hG.n
  have nN : (((I 4 0).toNat : Nat) : Int) = I 4 0 := by omega
  have tr : 0 ≤ I 10 2 ∧ I 10 2 ≤ I 10 1 := by
    have := cn_r (inT (I 11) (I 12)) (I 10 1).toNat
    rw [hB.2.2.2.2.2]
    omega
  obtain ⟨J1, a1, a2, -, a4⟩ := M_layTree (X := X) hB
  have R1 : Rl J1 := hR.scr (a2.mono (by decide))
  obtain ⟨J2, b1, b2, b3⟩ := M_layBacks (X := X) R1.1
  have f2 : fr [94, 96, 97] I J2 := (a2.mono (by decide)).tr (b2.mono (by decide))
  have R2 : Rl J2 := hR.scr (f2.mono (by decide))
  have pw := M_power (X := X) R2.1 (k := I 10 1 - I 10 2) (by omega)
  rw [f2 4 (by decide)] at pw
  have pb := pw_b (I := I) hn (k := (I 10 1 - I 10 2).toNat) (by omega)
  have e := e_M_summed X s w c I
  rw [a1] at e
  simp only [Option.bind_some] at e
  rw [b1] at e
  simp only [Option.bind_some] at e
  rw [f2 77 (by decide), l.2.2, if_pos (by omega), pw] at e
  simp only [Option.bind_some] at e
  by_cases z : 40000 < (I 4 0) ^ (I 10 1 - I 10 2).toNat
  · rw [if_pos z] at e
    rw [if_pos z]
    exact ⟨J2, e, f2.mono (by decide)⟩
  · rw [if_neg z] at e
    rw [if_neg z]
    have e' : f_M_summed X s w c I = f_M_summed_45 X s w c (I 10 2) ((I 4 0) ^ (I 10 1 - I 10 2).toNat) 0 J2 := by
      rw [e]
      split <;> rfl
    generalize hN : (I 4 0) ^ (I 10 1 - I 10 2).toNat = N at *
    obtain ⟨K, c1, c2, c3, c4⟩ := pl_loop (fun i (J : pm_I) => f_M_summed_45 X s w c (I 10 2) N i J) (I 4 0) (fun i J => 0 ≤ i ∧ fr [99] J2 J ∧ ∀ a, 0 ≤ a → a < i → J 99 a = I 8 a) (fun i J hi hp => by
      obtain ⟨p0, p1, p2⟩ := hp
      have RJ : Rl J := R2.scr (p1.mono (by decide))
      have e4 : J 4 = I 4 := (p1 4 (by decide)).trans (f2 4 (by decide))
      have e8 : J 8 = I 8 := (p1 8 (by decide)).trans (f2 8 (by decide))
      show ∃ s', f_M_summed_45 X s w c (I 10 2) N i J = f_M_summed_45 X s w c (I 10 2) N (i + 1) s' ∧ _
      rw [e_M_summed_45, RJ.1.2.1, e4, if_pos hi, M_classOf RJ.1 (by rw [e4]; exact ⟨p0, hi⟩)]
      simp only [Option.bind_some]
      rw [if_pos (by omega), if_pos (by omega), e8]
      refine ⟨_, rfl, by omega, p1.up (by decide), fun a a0 a1 => ?_⟩
      rw [up_at]
      by_cases y : a = i
      · rw [if_pos y, y]
      · rw [if_neg y]; exact p2 a a0 (by omega)) (i := 0) (s := J2) (by omega) ⟨Int.le_refl 0, fr.rf _ _, fun a a0 a1 => by omega⟩
    have fK : fr [94, 96, 97, 99] I K := (f2.mono (by decide)).tr (c3.mono (by decide))
    have RK : Rl K := hR.scr (fK.mono (by decide))
    have e45 : f_M_summed X s w c I = f_M_summed_77 X s w c (I 10 2) N 0 0 K := by
      rw [e']
      refine c1.trans ?_
      show f_M_summed_45 X s w c (I 10 2) N (I 4 0) K = _
      rw [e_M_summed_45, RK.1.2.1, fK 4 (by decide), if_neg (by omega)]
    have K94 : ∀ a, 0 ≤ a → a < I 4 0 → K 94 a = I 7 a := fun a a0 a1 => by
      rw [c3 94 (by decide), b3 a a0 (by rw [a2 4 (by decide)]; exact a1), a2 7 (by decide)]
    have K97 : ∀ k, 0 ≤ k → k < I 10 1 → K 97 k = I 14 k := fun k k0 k1 => by
      rw [c3 97 (by decide), b2 97 (by decide)]
      exact a4 k k0 k1
    have np : 0 < (I 4 0).toNat := by omega
    -- the sum over all fillings
    have sb : ∀ i : Nat, 0 ≤ sm (fun v => G (asg (I 4 0).toNat (inT (I 11) (I 12)) (I 10 1).toNat 0 v (fun _ => 0))) i ∧ sm (fun v => G (asg (I 4 0).toNat (inT (I 11) (I 12)) (I 10 1).toNat 0 v (fun _ => 0))) i ≤ i * 43046721 := fun i => sm_bd (fun k _ => hb _ (fun u u0 u1 => by
      have := asg_in (tr := inT (I 11) (I 12)) np (d := (I 10 1).toNat) (j := 0) (v := (k : Int)) (t := fun _ => 0) (fun _ _ _ => by omega) u u0 (by omega)
      omega))
    obtain ⟨⟨x, A⟩, d1, d2, d3, d4⟩ := pl_loop (σ := Int × pm_I) (fun i q => f_M_summed_77 X s w c (I 10 2) N q.1 i q.2) N (fun i q => 0 ≤ i ∧ q.1 = sm (fun v => G (asg (I 4 0).toNat (inT (I 11) (I 12)) (I 10 1).toNat 0 v (fun _ => 0))) i.toNat ∧ fr [93] K q.2) (fun i q hi hp => by
      obtain ⟨x, A⟩ := q
      obtain ⟨p0, p1, p2⟩ := hp
      simp only at p1 p2
      have fA : fr scr I A := (fK.mono (by decide)).tr (p2.mono (by decide))
      have s0 := sb i.toNat
      rw [← p1] at s0
      have xb : x ≤ 40000 * 43046721 := by omega
      obtain ⟨v', B, q1, q2, q3⟩ := M_dig (X := X) hR (s := s) (w := w) (c := c) (t := I 10 2) (N := N) (w8 := x) (v10 := i) (I 10 1).toNat 0 i A (by omega) (Int.le_refl 0) p0 fA (fun k k0 k1 => by rw [p2 97 (by decide)]; exact K97 k k0 k1)
      have fKB : fr [93] K B := p2.tr q2
      have B93 : inr I (B 93) := fun u u0 u1 => by
        rw [q3]
        have := asg_in (tr := inT (I 11) (I 12)) np (d := (I 10 1).toNat) (j := 0) (v := i) (t := A 93) (fun _ _ _ => by omega) u u0 (by omega)
        omega
      have st := hstep B (fA.tr (q2.mono (by decide))) (fun a a0 a1 => by rw [fKB 94 (by decide)]; exact K94 a a0 a1) (fun a a0 a1 => by rw [fKB 99 (by decide)]; exact c4 a a0 a1) B93 (I 10 2) N x i v' s0.1 xb p0 (by omega)
      have eG : G (B 93) = G (asg (I 4 0).toNat (inT (I 11) (I 12)) (I 10 1).toNat 0 i (fun _ => 0)) := hcg _ _ (fun k k0 k1 => by
        rw [q3]
        exact asg_cg (fun _ _ _ => by omega) k k0 (by omega))
      show ∃ q' : Int × pm_I, f_M_summed_77 X s w c (I 10 2) N x i A = f_M_summed_77 X s w c (I 10 2) N q'.1 (i + 1) q'.2 ∧ _
      rw [e_M_summed_77, if_neg (by omega), if_neg (by omega), q1, st, eG]
      refine ⟨(_, B), rfl, by omega, ?_, fKB⟩
      rw [show (i + 1).toNat = i.toNat + 1 by omega]
      show x + _ = sm _ i.toNat + G (asg (I 4 0).toNat (inT (I 11) (I 12)) (I 10 1).toNat 0 ((i.toNat : Nat) : Int) (fun _ => 0))
      rw [show ((i.toNat : Nat) : Int) = i by omega, ← p1]) (i := 0) (s := (0, K)) (by omega) ⟨Int.le_refl 0, rfl, fr.rf _ _⟩
    simp only at d3 d4
    have fA : fr scr I A := (fK.mono (by decide)).tr (d4.mono (by decide))
    refine ⟨A, ?_, fA⟩
    rw [e45]
    refine d1.trans ?_
    show f_M_summed_77 X s w c (I 10 2) N x N A = _
    have RA : Rl A := hR.scr fA
    have pw2 := M_power (X := X) RA.1 (k := I 10 2) (by omega)
    rw [fA 4 (by decide)] at pw2
    rw [e_M_summed_77, if_neg (by omega), if_pos rfl, pw2]
    simp only [Option.bind_some]
    -- the whole
    have c0 : (cT (inT (I 11) (I 12)) (I 10 1).toNat ((0 : Nat) : Int) : Int) = cn (inT (I 11) (I 12)) (0 + (I 10 1).toNat) - cn (inT (I 11) (I 12)) 0 := cT_cn
    rw [Nat.zero_add, ← hB.2.2.2.2.2] at c0
    have c0' : (cT (inT (I 11) (I 12)) (I 10 1).toNat 0 : Int) = I 10 2 - 0 := c0
    have cf := cTF (tr := inT (I 11) (I 12)) (d := (I 10 1).toNat) (j := 0)
    have eT : cT (inT (I 11) (I 12)) (I 10 1).toNat 0 = (I 10 2).toNat := by omega
    have eF : cF (inT (I 11) (I 12)) (I 10 1).toNat 0 = (I 10 1 - I 10 2).toNat := by omega
    have eS : SA I G = sm (fun v => G (asg (I 4 0).toNat (inT (I 11) (I 12)) (I 10 1).toNat 0 v (fun _ => 0))) ((I 4 0).toNat ^ cF (inT (I 11) (I 12)) (I 10 1).toNat 0) * ((I 4 0).toNat : Int) ^ cT (inT (I 11) (I 12)) (I 10 1).toNat 0 := SM_asg np
    have eN : (I 4 0).toNat ^ (I 10 1 - I 10 2).toNat = N.toNat := by
      have : (((I 4 0).toNat ^ (I 10 1 - I 10 2).toNat : Nat) : Int) = N := by rw [Int.natCast_pow, nN, hN]
      omega
    rw [eT, eF, eN, nN, ← d3] at eS
    have bd := SM_bd (G := G) (tr := inT (I 11) (I 12)) np (M := 43046721) (d := (I 10 1).toNat) (j := 0) (t := fun _ => 0) (fun t q => hb t (fun k k0 k1 => by have := q k k0 (by omega); omega)) (fun _ _ _ => by omega)
    have p10 := pw_b (I := I) hn (k := (I 10 1).toNat) (by omega)
    rw [nN] at bd
    have bd2 : (I 4 0) ^ (I 10 1).toNat * 43046721 ≤ 1073741824 * 43046721 := Int.mul_le_mul_of_nonneg_right p10.2 (by omega)
    have bd3 : 0 ≤ SA I G ∧ SA I G ≤ 1073741824 * 43046721 := ⟨bd.1, Int.le_trans bd.2 bd2⟩
    rw [← eS, w64_id (by omega)]
end MSN
