section MNB
variable {E : CtlPost} {e : Env} {d : Bool} {acts : List Action} {s : State} {f : JFrame}
theorem mn_cold {index dims c : Nat} {vm' : Vm} {Q : Unit → Pre} (hs : s.topJava?.isSome) (hg : (Jvm.resolveClass f.method.cls index).Gives e.toSetting s.vm (.ok c) vm') (hr : vm'.classReady f.method.cls index c)
    (hsz : vm'.classes.size ≤ s.vm.classes.size) :
    wp (Op.multianewarray.sem index dims) Q E e d acts (s.setTop f) ↔ wp (Op.multianewarray.sem index dims) Q E e d acts ((s.setVm vm').setTop f) := by
  simp only [Op.multianewarray.sem, wp_bind']
  exact W.resolveClassAt_transfer (s := s.setTop f) (State.method?_setTop f hs) hg hr hsz
theorem mn_ready {index : Nat} {cA comp ec : ClassId} {kA kc : Class} {n k : Int32} {rest : List Value} (hs : s.topJava?.isSome) (hr : s.vm.classReady f.method.cls index cA) (hst : f.stack = .int k :: .int n :: rest) (hA : s.vm.classes[cA]? = some kA) (hkA : kA.kind = .array comp (.array .int)) (hkind : kc.kind = .array ec .int) (hn : ¬ n < 0) (hz : (n == 0) = false) (hk0 : ¬ k < 0) (h1 : ¬ n.toNatClampNeg > e.platform.arrayLengthLimit) (h2 : ¬ n.toNatClampNeg * componentBytes (.array .int) > e.platform.maxHeapBytes) (h3 : s.heap.size < e.platform.maxCells) (h4 : s.slotsUsed + n.toNatClampNeg ≤ e.platform.maxSlots) (g1 : ¬ k.toNatClampNeg > e.platform.arrayLengthLimit) (g2 : ¬ k.toNatClampNeg * componentBytes .int > e.platform.maxHeapBytes)
    {J : Nat → State → Prop} (hJ : ∀ i S, J i S → S.topJava?.isSome) (h0 : J 0 (s.pushCell { cls := cA, slots := Array.replicate n.toNatClampNeg .null }))
    (hstep : ∀ i S, i < n.toNatClampNeg → J i S → S.vm.classes[comp]? = some kc ∧ S.heap.size < e.platform.maxCells ∧ S.slotsUsed + k.toNatClampNeg ≤ e.platform.maxSlots ∧ ∃ c, (S.pushCell { cls := comp, slots := Array.replicate k.toNatClampNeg (.int 0) }).heap[s.heap.size]? = some c ∧ c.vm ≠ .unknown ∧ i < c.slots.size ∧ (S.pushCell { cls := comp, slots := Array.replicate k.toNatClampNeg (.int 0) }).fitsSlot c.cls c.vm i (.ref S.heap.size) = true ∧ J (i + 1) ((S.pushCell { cls := comp, slots := Array.replicate k.toNatClampNeg (.int 0) }).setCell s.heap.size (c.setSlot i (.ref S.heap.size))))
    {Q : Unit → Pre} (hq : ∀ S d' acts', J n.toNatClampNeg S → Q () d' acts' (S.setTop { f with stack := .ref s.heap.size :: rest })) : wp (Op.multianewarray.sem index 2) Q E e d acts (s.setTop f) := by
  have hp : ∀ {Q : List Value → Pre}, wp (Jvm.popN 2) Q E e d acts (s.setTop f) ↔ Q [.int n, .int k] true acts (s.setTop { f with stack := rest }) := fun {Q} => Op.popN_top (args := [.int n, .int k]) hs (by rw [hst]; rfl)
  simp only [Op.multianewarray.sem, wp_bind', W.resolveClassAt_ready (State.method?_setTop f hs) hr, hp, List.mapM_cons, List.mapM_nil, wp_pure', pure_bind]
  refine mk_2 (s := s.setTop { f with stack := rest }) (J := fun i S => ∃ S0 : State, S = S0.setTop { f with stack := rest } ∧ J i S0) hA hkA hkind hn hz hk0 h1 h2 h3 h4 g1 g2 ⟨_, rfl, h0⟩ (fun i S hi hS => ?_) (fun S d1 a1 hS => ?_)
  · obtain ⟨S0, rfl, q⟩ := hS
    obtain ⟨q1, q2, q3, c, q4, q5, q6, q7, q8⟩ := hstep i S0 hi q
    refine ⟨q1, q2, q3, c, q4, q5, q6, ?_, _, ?_, q8⟩
    · exact q7
    · rfl
  · obtain ⟨S0, rfl, q⟩ := hS
    simp only [wp_bind', W.mark, W.pushRef, State.topJava?_setTop' _ (hJ _ _ q), Option.some.injEq, exists_eq_left', State.setTop_setTop]
    exact hq S0 _ _ q
end MNB
