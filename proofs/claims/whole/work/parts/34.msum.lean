section MSM
variable {X : pm_XT} {I : pm_I}
theorem M_power (hG : RlG I) {k : Int} (hk : 0 ≤ k ∧ k ≤ 10) : f_M_power X k I = some ((I 4 0) ^ k.toNat, I) := by
  have hn := hG.n
  obtain ⟨x, g1, g2, g3⟩ := pl_loop (fun i (x : Int) => f_M_power_5 X k x i I) k (fun i x => 0 ≤ i ∧ x = (I 4 0) ^ i.toNat) (fun i x hi hp => by
    obtain ⟨p0, p1⟩ := hp
    have b := pw_b (I := I) hn (k := (i + 1).toNat) (by omega)
    show ∃ s', f_M_power_5 X k x i I = f_M_power_5 X k s' (i + 1) I ∧ _
    rw [e_M_power_5, if_pos hi, if_pos (by omega), hG.2.1]
    refine ⟨_, rfl, by omega, ?_⟩
    have e : (I 4 0) ^ (i + 1).toNat = (I 4 0) ^ i.toNat * I 4 0 := by
      rw [show (i + 1).toNat = i.toNat + 1 by omega, Int.pow_succ]
    rw [p1, ← e, w64_id (by omega)]) (i := 0) (s := 1) hk.1 ⟨Int.le_refl _, (Int.pow_zero _).symm⟩
  rw [e_M_power]
  refine g1.trans ?_
  show f_M_power_5 X k x k I = _
  rw [e_M_power_5, if_neg (by omega), g3]
/-- the weight by the reference, as a product over eight -/
theorem wgp_Gw (hR : Rl I) {r : Nat} : wgp I r (I 3 3).toNat = Gw I (I r) := by
  have wb := hR.2.2.2.1.1
  have e : ∀ k : Nat, (k : Int) ≤ I 3 3 → wgp I r k = pp (fW I (I r)) k := fun k => by
    induction k with
    | zero => intro _; rfl
    | succ k ih =>
      intro hk
      show wgp I r k * @ite _ (wgh I k) (Classical.propDecidable _) (I 9 (wtn I r k)) 1 = pp (fW I (I r)) k * fW I (I r) k
      rw [ih (by omega)]
      congr 1
      unfold fW
      by_cases z : wgh I k
      · rw [if_pos z, if_pos ⟨by omega, z⟩]; rfl
      · rw [if_neg z, if_neg (fun y => z y.2)]
  rw [e _ (by omega)]
  unfold Gw
  have t := pp_tail (f := fW I (I r)) (m := (I 3 3).toNat) (d := 8 - (I 3 3).toNat) (fun i a b => by
    unfold fW
    rw [if_neg (fun y => by omega)])
  rw [show (I 3 3).toNat + (8 - (I 3 3).toNat) = 8 by omega] at t
  exact t.symm
end MSM
