/-! THE START: the classes' numbers, the row of units -/
theorem w_lays : Cond.laysStatic RX2 "UNITS" "[I" ∈ lw_tbl := List.mem_of_getElem? (i := 318) (by decide +kernel)
theorem len_lt {args : Array Value} {s : State} {tm : Term} {v : Value} {t : Nat} {cell : Cell} (h : (Term.length tm).eval args s none [] s = some v) (ht : tm.eval args s none [] s = some (.ref t)) (hat : s.arrayAt? t = some cell) : cell.slots.size < 2 ^ 31 := by
  simp only [Term.eval, ht, hat, Option.bind_eq_bind, Option.bind_some] at h
  by_cases hlt : cell.slots.size < 2147483648
  · exact hlt
  · simp [hlt] at h
theorem un_X {args : Array Value} {s : State} (hgv : (Jvm.Cond.and given_1 narrow_1).before args s = true) : ∃ a1 : Nat, (Term.static "TurnBoards$Group" "UNITS" "[I").eval args s none [] s = some (.ref a1) ∧ a1 < s.heap.size ∧ va_X a1 16 (fun j => Int32.ofInt (pm_units j)) s s.heap := by
  have hs := flat_of_before _ hgv
  have harr : (Cond.arrayOf (.static "TurnBoards$Group" "UNITS" "[I") .int).before args s = true := hs _ (by decide +kernel)
  have hlen := va_eqt (hs (Cond.eq (.length (.static "TurnBoards$Group" "UNITS" "[I")) (.int 16)) (by decide +kernel))
  obtain ⟨t, cell, ht, hat, hv⟩ := Term.length_spec hlen
  have hsz : cell.slots.size < 2 ^ 31 := len_lt hlen ht hat
  obtain ⟨hcell, hkn, -, -⟩ := State.arrayAt?_spec hat
  obtain ⟨hof, -⟩ := Cond.arrayOf_spec harr ht hcell
  have h16 : cell.slots.size = 16 := by
    have e := Value.int.inj hv
    have e2 := congrArg Int32.toNatClampNeg e
    have e3 : (Nat.toInt32 cell.slots.size).toNatClampNeg = cell.slots.size := Int32.toNatClampNeg_ofNat_of_lt hsz
    rw [e3] at e2
    rw [← e2]
    decide
  have el : ∀ (i : Nat) (z : Int32), i < 16 → (Cond.eq (.elem (.static "TurnBoards$Group" "UNITS" "[I") (.int (Int32.ofNat i))) (.int z)).before args s = true → cell.slots[i]? = some (.int z) := fun i z hi h => by
    obtain ⟨a, k, cell2, h1, h2, h3, h4, h5⟩ := Term.elem_spec (va_eqt h)
    cases ht.symm.trans h1
    cases hat.symm.trans h3
    have e : (Term.int (Int32.ofNat i)).eval args s none [] s = some (.int (Int32.ofNat i)) := rfl
    cases h2.symm.trans e
    rw [Int32.toNatClampNeg_ofNat_of_lt (by omega)] at h5
    exact h5
  refine ⟨t, ht, (Array.getElem?_eq_some_iff.mp hcell).1, cell, hcell, hof, hkn, h16, fun j hj => ?_⟩
  have : j = 0 ∨ j = 1 ∨ j = 2 ∨ j = 3 ∨ j = 4 ∨ j = 5 ∨ j = 6 ∨ j = 7 ∨ j = 8 ∨ j = 9 ∨ j = 10 ∨ j = 11 ∨ j = 12 ∨ j = 13 ∨ j = 14 ∨ j = 15 := by omega
  rcases this with rfl | rfl | rfl | rfl | rfl | rfl | rfl | rfl | rfl | rfl | rfl | rfl | rfl | rfl | rfl | rfl
  · exact el 0 0 (by decide) (hs _ (by decide +kernel))
  · exact el 1 1 (by decide) (hs _ (by decide +kernel))
  · exact el 2 2 (by decide) (hs _ (by decide +kernel))
  · exact el 3 3 (by decide) (hs _ (by decide +kernel))
  · exact el 4 1 (by decide) (hs _ (by decide +kernel))
  · exact el 5 4 (by decide) (hs _ (by decide +kernel))
  · exact el 6 3 (by decide) (hs _ (by decide +kernel))
  · exact el 7 6 (by decide) (hs _ (by decide +kernel))
  · exact el 8 2 (by decide) (hs _ (by decide +kernel))
  · exact el 9 7 (by decide) (hs _ (by decide +kernel))
  · exact el 10 4 (by decide) (hs _ (by decide +kernel))
  · exact el 11 1 (by decide) (hs _ (by decide +kernel))
  · exact el 12 3 (by decide) (hs _ (by decide +kernel))
  · exact el 13 2 (by decide) (hs _ (by decide +kernel))
  · exact el 14 5 (by decide) (hs _ (by decide +kernel))
  · exact el 15 4 (by decide) (hs _ (by decide +kernel))
theorem k_start {args : Array Value} {s : State} (hts : ∀ w ∈ pm_TB, w.before args s = true) (hAW : va_AO RX5 s) (hAS : va_AO RX3 s) (hAA : ct_AA s) : ∃ (D : va_G) (τ : ClassId × ClassId × ClassId × ClassId × ClassId), va_K D vwCl (ct_T τ) s := by
  obtain ⟨c0, i0, h0⟩ := u_known hts wi_0 (hts _ wt_Acts)
  obtain ⟨c1, i1, h1⟩ := u_known hts wi_1 (hts _ wt_Board)
  obtain ⟨c2, i2, h2⟩ := u_known hts wi_2 (hts _ wt_Group)
  obtain ⟨c3, i3, h3⟩ := u_known hts wi_3 (hts _ wt_Sheet)
  obtain ⟨c4, i4, h4⟩ := u_known hts wi_4 (hts _ wt_Sums)
  obtain ⟨c5, i5, h5⟩ := u_known hts wi_5 (hts _ wt_Walk)
  obtain ⟨c6, i6, h6⟩ := u_known hts wi_6 (hts _ wt_Tb)
  obtain ⟨c7, i7, h7⟩ := u_known hts wi_7 (hts _ wt_Model)
  obtain ⟨cI, kI, eI, a1, a2, a3⟩ := Cond.arrayClass_spec (hts _ w_arI)
  obtain ⟨cZ, kZ, eZ, b1, b2, b3⟩ := Cond.arrayClass_spec (hts _ w_arZ)
  obtain ⟨eS, cS, kS, d1, d2, d3, d4, d5⟩ := Cond.arrayOver_spec hAS
  obtain ⟨eW, cW, kW, f1, f2, f3, f4, f5⟩ := Cond.arrayOver_spec hAW
  obtain ⟨eA, cA, kA, g1, g2, g3, g4, g5⟩ := arrayOverA_spec hAA
  refine ⟨(fun j => [c0, c1, c2, c3, c4, c5, c6, c7].getD j 0, fun j => [i0, i1, i2, i3, i4, i5, i6, i7].getD j (fun _ => 0)), (cI, cZ, cS, cW, cA), fun c q hq => ?_, fun k q hq => ?_⟩
  · match c, hq with
    | 0, hq => cases hq; exact h0
    | 1, hq => cases hq; exact h1
    | 2, hq => cases hq; exact h2
    | 3, hq => cases hq; exact h3
    | 4, hq => cases hq; exact h4
    | 5, hq => cases hq; exact h5
    | 6, hq => cases hq; exact h6
    | 7, hq => cases hq; exact h7
    | n + 8, hq => cases hq
  · match k, hq with
    | 0, hq => cases hq; exact ⟨fun n z => ⟨fun k h => (by cases h), kI, a2, eI, a3⟩, a1⟩
    | 1, hq => cases hq; exact ⟨fun n z => ⟨fun k h => (by cases h), kZ, b2, eZ, b3⟩, b1⟩
    | 2, hq => cases hq; exact ⟨fun n z => ⟨fun k h => (by cases h), kS, d3, eS, d4⟩, kS, eS, d3, d4, d1, d5⟩
    | 3, hq => cases hq; exact ⟨fun n z => ⟨fun k h => (by cases h), kW, f3, eW, f4⟩, kW, eW, f3, f4, f1, f5⟩
    | 4, hq => cases hq; exact ⟨fun n z => ⟨fun k h => (by cases h), kA, g3, eA, g4⟩, g5⟩
    | n + 5, hq => cases hq
