/-! A ROW FOR multianewarray of two dimensions of ints -/
section MNA
variable {E : CtlPost} {e : Env} {d : Bool} {acts : List Action} {s : State}
theorem mk_1 {comp ec : ClassId} {kc : Class} {k : Int32} (hk : s.vm.classes[comp]? = some kc) (hkind : kc.kind = .array ec .int) (hn : ¬ k < 0) (h1 : ¬ k.toNatClampNeg > e.platform.arrayLengthLimit) (h2 : ¬ k.toNatClampNeg * componentBytes .int > e.platform.maxHeapBytes) (h3 : s.heap.size < e.platform.maxCells) (h4 : s.slotsUsed + k.toNatClampNeg ≤ e.platform.maxSlots) {Q : Addr → Pre} (hq : ∀ acts', Q s.heap.size d acts' (s.pushCell { cls := comp, slots := Array.replicate k.toNatClampNeg (.int 0) })) : wp (Op.multianewarray.make comp [k]) Q E e d acts s := by
  simp only [Op.multianewarray.make, wp_bind', W.ite, hn, if_false, wp_pure', W.theClass, hk, Option.some.injEq, exists_eq_left', hkind]
  exact Jvm.W.newArray_of hk hkind h1 h2 h3 h4 rfl hq
theorem mk_2 {cA comp ec : ClassId} {kA kc : Class} {n k : Int32} (hA : s.vm.classes[cA]? = some kA) (hkA : kA.kind = .array comp (.array .int)) (hkind : kc.kind = .array ec .int) (hn : ¬ n < 0) (hz : (n == 0) = false) (hk0 : ¬ k < 0) (h1 : ¬ n.toNatClampNeg > e.platform.arrayLengthLimit) (h2 : ¬ n.toNatClampNeg * componentBytes (.array .int) > e.platform.maxHeapBytes) (h3 : s.heap.size < e.platform.maxCells) (h4 : s.slotsUsed + n.toNatClampNeg ≤ e.platform.maxSlots) (g1 : ¬ k.toNatClampNeg > e.platform.arrayLengthLimit) (g2 : ¬ k.toNatClampNeg * componentBytes .int > e.platform.maxHeapBytes)
    {J : Nat → State → Prop} (h0 : J 0 (s.pushCell { cls := cA, slots := Array.replicate n.toNatClampNeg .null }))
    (hstep : ∀ i S, i < n.toNatClampNeg → J i S → S.vm.classes[comp]? = some kc ∧ S.heap.size < e.platform.maxCells ∧ S.slotsUsed + k.toNatClampNeg ≤ e.platform.maxSlots ∧ ∃ c, (S.pushCell { cls := comp, slots := Array.replicate k.toNatClampNeg (.int 0) }).heap[s.heap.size]? = some c ∧ c.vm ≠ .unknown ∧ i < c.slots.size ∧ (S.pushCell { cls := comp, slots := Array.replicate k.toNatClampNeg (.int 0) }).fitsSlot c.cls c.vm i (.ref S.heap.size) = true ∧ J (i + 1) ((S.pushCell { cls := comp, slots := Array.replicate k.toNatClampNeg (.int 0) }).setCell s.heap.size (c.setSlot i (.ref S.heap.size))))
    {Q : Addr → Pre} (hq : ∀ S d' acts', J n.toNatClampNeg S → Q s.heap.size d' acts' S) : wp (Op.multianewarray.make cA [n, k]) Q E e d acts s := by
  rw [Op.multianewarray.make]
  simp only [wp_bind', W.ite, hn, if_false, wp_pure', W.theClass, hA, Option.some.injEq, exists_eq_left', hkA, hz, Bool.false_eq_true]
  refine Jvm.W.newArray_of hA hkA h1 h2 h3 h4 rfl (fun acts' => ?_)
  simp only [Std.Legacy.Range.forIn_eq_forIn_range', Std.Legacy.Range.size, wp_bind', wp_pure']
  refine wp_forIn_inv (fun rest S => ∃ i, rest = List.range' i (n.toNatClampNeg - i) ∧ i ≤ n.toNatClampNeg ∧ J i S) _ _ ?_ (fun x rest S d1 a1 Q' hI hk' => ?_) (fun S d1 a1 hI => ?_)
  · exact ⟨0, by simp, Nat.zero_le _, h0⟩
  · obtain ⟨i, e1, e2, e3⟩ := hI
    have hi : i < n.toNatClampNeg := by
      rcases Nat.lt_or_ge i n.toNatClampNeg with z | z
      · exact z
      · rw [show n.toNatClampNeg - i = 0 by omega] at e1
        simp at e1
    rw [show n.toNatClampNeg - i = (n.toNatClampNeg - (i + 1)) + 1 by omega, List.range'_succ] at e1
    obtain ⟨rfl, rfl⟩ := List.cons.inj e1
    obtain ⟨q1, q2, q3, c, q4, q5, q6, q7, q8⟩ := hstep x S hi e3
    simp only [wp_bind']
    refine mk_1 q1 hkind hk0 g1 g2 q2 q3 (fun acts2 => ?_)
    simp only [wp_bind', W.writeLoc, wp_pure']
    exact ⟨c, q4, q5, q6, q7, hk' _ _ _ ⟨x + 1, rfl, hi, q8⟩⟩
  · obtain ⟨i, e1, e2, e3⟩ := hI
    have : i = n.toNatClampNeg := by
      rcases Nat.lt_or_ge i n.toNatClampNeg with z | z
      · rw [show n.toNatClampNeg - i = (n.toNatClampNeg - (i + 1)) + 1 by omega, List.range'_succ] at e1
        cases e1
      · omega
    subst this
    exact hq S d1 a1 e3
end MNA
