section MNC
variable {p : Program} {l : Launch} {e : Env} {R : Room} {s : State} {m : MethodId} {args : Array Value} {below : List Frame} {meth : Method} {c : Code} {H : Heap} {locs : List Loc} {cells slots : Nat} {Q : State → Prop}
theorem W_multi {cc : ByteArray} (hexec : p.tables.exec = Jvm.exec) (hb : c.code = cc) {own : String} {index : Nat} (hown : s.vm.findClass own = some m.cls) (hclink : (Cond.classLink own index "[[I").before args s = true) (hover : (Cond.arrayOver (.array .int)).before args s = true) (harr : (Cond.arrayClass .int).before args s = true)
    {g : JFrame} (hg : g.method = m) (hdg : decode cc g.pc = .ok (.multianewarray index 2, 4)) {n k : Int32} {rest : List Value} (hst : g.stack = .int k :: .int n :: rest) (hn : ¬ n < 0) (hz : (n == 0) = false) (hk0 : ¬ k < 0) {N K : Nat} (hN : n.toNatClampNeg = N) (hK : k.toNatClampNeg = K) (N9 : N ≤ 1000) (K9 : K ≤ 1000) (hcells : cells + 1 + N ≤ R.cells) (hslots : slots + N + N * K ≤ R.slots)
    (kk : ∀ (H1 : Heap) (locs1 : List Loc) (cA cI : ClassId) (kA kI : Class) (ec : ClassId), s.vm.findClass "[[I" = some cA → s.vm.findClass "[I" = some cI → s.vm.classes[cA]? = some kA → kA.kind = .array cI (.array .int) → s.vm.classes[cI]? = some kI → kI.kind = .array ec .int → H1.size = H.size + 1 + N → (∀ q, q < H.size → H1[q]? = H[q]?) → H1[H.size]? = some (arrV cA N (fun j => .ref (H.size + 1 + j))) → (∀ j, j < N → H1[H.size + 1 + j]? = some (arrV cI K (fun _ => .int 0))) → (∀ q ∈ locs1, q ∈ locs ∨ q.base = H.size) →
      W p l e R s m args below meth c H1 locs1 (cells + 1 + N) (slots + N + N * K) Q { g with pc := g.pc + 4, stack := .ref H.size :: rest }) : W p l e R s m args below meth c H locs cells slots Q g := by
  intro T hT X
  subst hT; subst hb; subst hg
  have hpl : e.platform.magicAccessors = ({} : Platform).magicAccessors := by rw [X.admits.platform]
  obtain ⟨comp, cA, kA, hcomp, hidx, hkA, hkindA, hnameA⟩ := arrayOverA_spec hover
  obtain ⟨cI, kI, ec, hnI, hkI, hkindI⟩ := Cond.arrayClass_spec harr
  have eI : cI = comp := by
    have : s.vm.findClass "[I" = some cI := hnI
    have h2 : s.vm.findClass "[I" = some comp := hcomp
    rw [this] at h2
    exact Option.some.inj h2
  subst eI
  obtain ⟨c2, hfcc, hcl⟩ := Cond.classLink_spec hown hclink e.platform hpl
  have e2 : c2 = cA := by
    have : s.vm.findClass "[[I" = some cA := hnameA
    rw [this] at hfcc
    exact (Option.some.inj hfcc).symm
  subst e2
  obtain ⟨hg₁, hwarm₁, hready₁⟩ := State.classEntry (e := e) X.warmed hcl
  have hal : s.vm.Alike (T.vm.noted g.method.cls index (.cls c2)) := hwarm₁.alike
  have hsz : (T.vm.noted g.method.cls index (.cls c2)).classes.size ≤ T.vm.classes.size := by no_record
  generalize hvm : T.vm.noted g.method.cls index (.cls c2) = vm₁ at hg₁ hwarm₁ hready₁ hal hsz
  obtain ⟨kA₁, hkA₁, heA⟩ := hal.2.2 _ _ hkA
  have hkindA₁ : kA₁.kind = .array cI (.array .int) := by rw [heA]; exact hkindA
  obtain ⟨kI₁, hkI₁, heI⟩ := hal.2.2 _ _ hkI
  have hkindI₁ : kI₁.kind = .array ec .int := by rw [heI]; exact hkindI
  have X₁ := X.noted hwarm₁
  have lim := Launch.admits_arrayLengthLimit X.admits
  have mxb := Launch.admits_maxHeapBytes X.admits
  obtain ⟨r1, r2⟩ := X.roomAbove (a := 1 + N) (b := N + N * K) (by omega) (by omega)
  let J : Nat → State → Prop := fun i S => ∃ L, Stand p l e R s g.method args below meth c S L (cells + 1 + i) (slots + N + i * K) ∧ S.vm = vm₁ ∧ S.heap.size = T.heap.size + 1 + i ∧ (∀ q, q < T.heap.size → S.heap[q]? = T.heap[q]?) ∧ S.heap[T.heap.size]? = some (arrV c2 N (fun j => if j < i then .ref (T.heap.size + 1 + j) else .null)) ∧ (∀ j, j < i → S.heap[T.heap.size + 1 + j]? = some (arrV cI K (fun _ => .int 0))) ∧ ∀ q ∈ L, q ∈ locs ∨ q.base = T.heap.size
  have h0 : J 0 ((T.setVm vm₁).pushCell { cls := c2, slots := Array.replicate n.toNatClampNeg .null }) := by
    refine ⟨locs, ?_, rfl, ?_, fun q hq => ?_, ?_, fun j hj => by omega, fun q hq => Or.inl hq⟩
    · have := X₁.pushed { cls := c2, slots := Array.replicate n.toNatClampNeg .null, vm := .none }
      rw [Array.size_replicate, hN] at this
      rw [Nat.zero_mul]
      rw [hN]
      exact this
    · show (T.heap.push _).size = _
      rw [Array.size_push]
    · show (T.heap.push _)[q]? = _
      rw [Array.getElem?_push, if_neg (Nat.ne_of_lt hq)]
    · show (T.heap.push _)[T.heap.size]? = _
      rw [Array.getElem?_push_size, arrV_new, hN]
      rfl
  have hstep : ∀ i S, i < n.toNatClampNeg → J i S → S.vm.classes[cI]? = some kI₁ ∧ S.heap.size < e.platform.maxCells ∧ S.slotsUsed + k.toNatClampNeg ≤ e.platform.maxSlots ∧ ∃ c, (S.pushCell { cls := cI, slots := Array.replicate k.toNatClampNeg (.int 0) }).heap[T.heap.size]? = some c ∧ c.vm ≠ .unknown ∧ i < c.slots.size ∧ (S.pushCell { cls := cI, slots := Array.replicate k.toNatClampNeg (.int 0) }).fitsSlot c.cls c.vm i (.ref S.heap.size) = true ∧ J (i + 1) ((S.pushCell { cls := cI, slots := Array.replicate k.toNatClampNeg (.int 0) }).setCell T.heap.size (c.setSlot i (.ref S.heap.size))) := fun i S hi hS => by
    obtain ⟨L, q1, q2, q3, q4, q5, q6, q7⟩ := hS
    rw [hN] at hi
    have hiK : i * K + K ≤ N * K := by
      have := Nat.mul_le_mul_right K (show i + 1 ≤ N by omega)
      rw [Nat.succ_mul] at this
      exact this
    obtain ⟨u1, u2⟩ := q1.roomAbove (a := 1) (b := K) (by omega) (by omega)
    have hc : (S.pushCell { cls := cI, slots := Array.replicate k.toNatClampNeg (.int 0) }).heap[T.heap.size]? = some (arrV c2 N (fun j => if j < i then .ref (T.heap.size + 1 + j) else .null)) := by
      show (S.heap.push _)[T.heap.size]? = _
      rw [Array.getElem?_push, if_neg (by omega)]
      exact q5
    refine ⟨by rw [q2]; exact hkI₁, by omega, by rw [hK]; omega, _, hc, (fun h => by cases h), ?_, ?_, ?_⟩
    · rw [arrV_size]; exact hi
    · show State.fitsSlot _ c2 .none i _ = true
      have ev : S.vm.classes[c2]? = some kA₁ := by rw [q2]; exact hkA₁
      simp [State.fitsSlot, State.slotType?, ev, hkindA₁]
      rfl
    · have st := (q1.pushed { cls := cI, slots := Array.replicate k.toNatClampNeg (.int 0), vm := .none }).stored hc i (.ref S.heap.size)
      rw [Array.size_replicate, hK] at st
      have szP : (S.heap.push ({ cls := cI, slots := Array.replicate k.toNatClampNeg (.int 0), vm := .none } : Cell)).size = T.heap.size + 1 + (i + 1) := by rw [Array.size_push, q3]; omega
      have other : ∀ q, q ≠ T.heap.size → ((S.pushCell { cls := cI, slots := Array.replicate k.toNatClampNeg (.int 0) }).setCell T.heap.size ((arrV c2 N (fun j => if j < i then .ref (T.heap.size + 1 + j) else .null)).setSlot i (.ref S.heap.size))).heap[q]? = (S.heap.push ({ cls := cI, slots := Array.replicate k.toNatClampNeg (.int 0), vm := .none } : Cell))[q]? := fun q hq => by
        rw [heapAt_setCell_ne _ (Ne.symm hq)]
        rfl
      refine ⟨L ++ [⟨T.heap.size, i⟩], ?_, q2, ?_, fun q hq => ?_, ?_, fun j hj => ?_, fun q hq => ?_⟩
      · rw [show cells + 1 + (i + 1) = cells + 1 + i + 1 by omega, show slots + N + (i + 1) * K = slots + N + i * K + K by rw [Nat.succ_mul]; omega]
        rw [hK]
        exact st
      · rw [size_setCell]
        exact szP
      · rw [other q (by omega), Array.getElem?_push, if_neg (by omega)]
        exact q4 q hq
      · rw [heapAt_setCell_self _ (by show _ < (S.heap.push _).size; omega), arrV_store]
        congr 2
        funext j
        unfold updV
        by_cases y : j = i
        · rw [if_pos y, if_pos (by omega), y, q3]
        · rw [if_neg y]
          dsimp only
          by_cases w : j < i
          · rw [if_pos w, if_pos (by omega)]
          · rw [if_neg w, if_neg (by omega)]
      · rw [other _ (by omega), Array.getElem?_push]
        by_cases y : j = i
        · rw [if_pos (by omega), ← hK, ← arrV_new]
        · rw [if_neg (by omega)]
          exact q6 j (by omega)
      · rcases List.mem_append.mp hq with z | z
        · exact q7 q z
        · right
          rw [List.mem_singleton.mp z]
  have h1 : wpRun (Op.multianewarray.sem index 2) (fun _ s₁ _ => ∃ S : State, s₁ = S.setTop { g with stack := .ref T.heap.size :: rest } ∧ J N S) (fun _ _ _ => False) e (T.setTop g) := by
    unfold wpRun
    rw [mn_cold X.here.top hg₁ hready₁ hsz]
    refine mn_ready (J := J) (s := T.setVm vm₁) X.here.top hready₁ hst hkA₁ hkindA₁ hkindI₁ hn hz hk0 (by rw [lim, hN]; omega) (by rw [mxb, hN]; show ¬ N * 4 > _; omega) ?_ ?_ (by rw [lim, hK]; omega) (by rw [mxb, hK]; show ¬ K * 4 > _; omega) (fun i S hS => hS.choose_spec.1.here.top) h0 hstep (fun S d acts hS => ⟨S, rfl, by rw [← hN]; exact hS⟩)
    · show T.heap.size < _
      omega
    · show T.slotsUsed + _ ≤ _
      rw [hN]
      omega
  have h2 := (wpRun_iff_run _ _ _ _ _).mp h1
  cases hr : (Op.multianewarray.sem index 2).run e (T.setTop g) with
  | ok a s₁ acts =>
    rw [hr] at h2
    obtain ⟨S, rfl, L, q1, q2, q3, q4, q5, q6, q7⟩ := h2
    have q5' : S.heap[T.heap.size]? = some (arrV c2 N (fun j => .ref (T.heap.size + 1 + j))) := by
      rw [q5]
      congr 1
      unfold arrV
      congr 1
      apply Array.ext
      · simp
      · intro j h1 h2
        simp at h1
        simp [h1]
    obtain ⟨t, a1, b1⟩ := kk S.heap L c2 cI kA kI ec hnameA hcomp hkA hkindA hkI hkindI q3 q4 q5' q6 q7 S rfl q1
    refine ⟨t, Steps.instr (c := c) X.here ?_, b1⟩
    rw [hdg]
    show wpRun (p.tables.exec (.multianewarray index 2)) _ _ e _
    rw [hexec]
    refine (wpRun_iff_run (Op.multianewarray.sem index 2) _ _ _ _).mpr ?_
    rw [hr]
    intro acts'
    rw [afterInstr_ok]
    exact a1
  | ctl x s₁ acts =>
    rw [hr] at h2
    cases x <;> exact h2.elim
end MNC
