/-! CALLS OF CONSTRUCTORS; worlds in another order -/
theorem z_prm {D : va_G} {A : Nat → Prop} {ws ws' : va_W} {H : Heap} (hp : ws.Perm ws') (hP : va_P D vwCl ws H) (hD : va_D A ws) : va_P D vwCl ws' H ∧ va_D A ws' := by
  have nd : ∀ w : va_W, (∀ (i j : Nat) (p q : Nat × va_E), w[i]? = some p → w[j]? = some q → p.1 = q.1 → i = j) ↔ (w.map Prod.fst).Nodup := fun w => by
    rw [List.Nodup, List.pairwise_iff_getElem]
    constructor
    · intro h i j hi hj hij e
      rw [List.length_map] at hi hj
      rw [List.getElem_map, List.getElem_map] at e
      have := h i j _ _ (List.getElem?_eq_getElem hi) (List.getElem?_eq_getElem hj) e
      omega
    · intro h i j p q hi hj e
      obtain ⟨li, ei⟩ := List.getElem?_eq_some_iff.mp hi
      obtain ⟨lj, ej⟩ := List.getElem?_eq_some_iff.mp hj
      rcases Nat.lt_trichotomy i j with z | z | z
      · exact absurd (by rw [List.getElem_map, List.getElem_map, ei, ej]; exact e) (h i j (by rw [List.length_map]; exact li) (by rw [List.length_map]; exact lj) z)
      · exact z
      · exact absurd (by rw [List.getElem_map, List.getElem_map, ei, ej]; exact e.symm) (h j i (by rw [List.length_map]; exact lj) (by rw [List.length_map]; exact li) z)
  refine ⟨fun k q hq => ?_, (nd ws').mpr ((hp.map _).nodup_iff.mp ((nd ws).mp hD.1)), fun k q hq => ?_⟩
  · obtain ⟨j, hj⟩ := List.mem_iff_getElem?.mp (hp.mem_iff.mpr (List.mem_of_getElem? hq))
    exact hP j q hj
  · obtain ⟨j, hj⟩ := List.mem_iff_getElem?.mp (hp.mem_iff.mpr (List.mem_of_getElem? hq))
    exact hD.2 j q hj
theorem z_join {D : va_G} {A : Nat → Prop} {ws w1 : va_W} {q : Nat} {e0 : va_E} {H H1 : Heap} (hP : va_P D vwCl (ws ++ [(q, e0)]) H) (hD : va_D A (ws ++ [(q, e0)])) (hk : ∀ x : Nat, x < H.size → ¬ va_A [(q, e0)] H.size x → H1[x]? = H[x]?) (hF : ∀ x, va_A [(q, e0)] H.size x → A x) (hP1 : va_P D vwCl w1 H1) (hD1 : va_D (va_A [(q, e0)] H.size) w1) : va_P D vwCl (ws ++ w1) H1 ∧ va_D A (ws ++ w1) := by
  have up : ∀ (k : Nat) (x : Nat × va_E), ws[k]? = some x → (ws ++ [(q, e0)])[k]? = some x := fun k x hx => by rw [List.getElem?_append_left (List.getElem?_eq_some_iff.mp hx).1]; exact hx
  have apart : ∀ (k : Nat) (x : Nat × va_E), ws[k]? = some x → x.1 < H.size ∧ ¬ va_A [(q, e0)] H.size x.1 := fun k x hx => by
    have hl := (hP k x (up k x hx)).lt
    have hkl := (List.getElem?_eq_some_iff.mp hx).1
    refine ⟨hl, fun h => ?_⟩
    rcases h with ⟨k2, e, h⟩ | h
    · cases k2 with
      | zero =>
        have h := congrArg Prod.fst (Option.some.inj h)
        have := hD.1 k ws.length x (q, e0) (up k x hx) (by rw [List.getElem?_append_right (Nat.le_refl _), Nat.sub_self]; rfl) h.symm
        omega
      | succ k2 => cases h
    · omega
  refine ⟨va_P.app (fun k x hx => ?_) hP1, va_D.app ⟨fun i j x y hx hy hxy => hD.1 i j x y (up i x hx) (up j y hy) hxy, fun k x hx => hD.2 k x (up k x hx)⟩ (hD1.weaken (fun k x _ h => hF x.1 h)) (fun i j x y hx hy hxy => ?_)⟩
  · obtain ⟨g1, g2⟩ := apart k x hx
    exact (hP k x (up k x hx)).kept (hk x.1 g1 g2)
  · exact (apart i x hx).2 (by rw [hxy]; exact hD1.2 j y hy)
theorem ct_good {y : MethodName} {bytes : ByteArray} {nl : Nat} (h : Cond.code y bytes nl none ∈ pm_TB) : GoodIn pm_TB (Cond.code y bytes nl none :: pm_TB) := fun w hw => by
  rcases List.mem_cons.mp hw with e | e
  · subst e; exact ⟨h, pm_TB_good _ h⟩
  · exact ⟨e, pm_TB_good _ e⟩
theorem ct_blind {D : va_G} {τ : ClassId × ClassId × ClassId × ClassId × ClassId} {h0 sz : Nat} {e0 : va_E} {Ex : State → Prop} (hEb : ∀ (U : State) (g : JFrame) (mk : MethodId) (a : Array Value), Ex U → Ex (U.calling g mk a)) : FrameBlind (ct_Pc D τ h0 e0 sz Ex) := fun a U g mk q => by
  obtain ⟨q0, q1, qP, qK, qD, qE⟩ := q
  exact ⟨q0, q1, qP, va_K.moved (u := U) (U := U.calling g mk a) (Vm.Alike.refl U.vm) qK, qD, hEb U g mk a qE⟩
section CTC
variable {p : Program} {l : Launch} {e : Env} {R : Room} {s : State} {m : MethodId} {args : Array Value} {below : List Frame} {meth : Method} {c : Code} {H : Heap} {locs : List Loc} {cells slots : Nat} {Q : State → Prop}
variable {cc : ByteArray} {pc : Nat} {ls : Array Slot} {rest : List Value} {D : va_G} {A : Nat → Prop} {ws : va_W} {τ : ClassId × ClassId × ClassId × ClassId × ClassId}
variable {y : MethodName} {bytes : ByteArray} {nL nl idx mc ms q : Nat} {own : String} {rm : Room} {e0 : va_E} {Ex : State → Prop} {S : Type} {post : S → Prop} {L : S → va_W}
theorem z_pre (hEx : ∀ U : State, U.heap = H → s.WarmedH U.vm → Ex U) (hK : va_K D vwCl (ct_T τ) s) (hP : va_P D vwCl (ws ++ [(q, e0)]) H) (U : State) (hU : U.heap = H) (hW : s.WarmedH U.vm) : ct_Pc D τ q e0 H.size Ex (Value.ref q :: []).toArray U := by
  refine ⟨rfl, by rw [hU], ?_, va_K.moved hW.alike hK, ⟨fun i j x y hx hy _ => ?_, fun _ _ _ => trivial⟩, hEx U hU hW⟩
  · rw [hU]
    intro k x hx
    cases k with
    | zero => exact hP ws.length x (by rw [List.getElem?_append_right (Nat.le_refl _), Nat.sub_self]; exact hx)
    | succ k => cases hx
  · cases i with
    | zero => cases j with
      | zero => rfl
      | succ j => cases hy
    | succ i => cases hx
theorem z_bk (hr : va_Run p l e R s m args below meth c H locs cells slots mc ms (F0 m pc ls (.ref q :: rest)) rest (ct_Qc D (va_A [(q, e0)] H.size) post L (Value.ref q :: []).toArray) (va_A [(q, e0)] H.size)) (hP : va_P D vwCl (ws ++ [(q, e0)]) H) (hD : va_D A (ws ++ [(q, e0)])) (hS : va_S A s.heap H locs) (hA : ∀ q, s.heap.size ≤ q → A q)
    (kk : ∀ (u : S) (H1 : Heap) (locs1 : List Loc), post u → va_P D vwCl (ws ++ L u) H1 → va_D A (ws ++ L u) → va_S A s.heap H1 locs1 → W p l e R s m args below meth c H1 locs1 (cells + mc) (slots + ms) Q (F0 m (pc + 3) ls rest)) : W p l e R s m args below meth c H locs cells slots Q (F0 m pc ls (.ref q :: rest)) := by
  have hF : ∀ x, va_A [(q, e0)] H.size x → A x := fun x h => by
    rcases h with ⟨k, e, h⟩ | h
    · cases k with
      | zero =>
        have h := congrArg Prod.fst (Option.some.inj h)
        have := hD.2 ws.length (q, e0) (by rw [List.getElem?_append_right (Nat.le_refl _), Nat.sub_self]; rfl)
        have h : q = x := h
        rw [← h]; exact this
      | succ k => cases h
    · exact hA x (Nat.le_trans hS.1 h)
  refine va_callv hr hS (fun x _ h => hF x h) hF (fun u t H1 locs1 ht _ hpo hB _ hk1 hS1 => ?_)
  obtain ⟨hP1, hD1⟩ := hB
  rw [ht] at hP1
  obtain ⟨g1, g2⟩ := z_join hP hD hk1 hF hP1 hD1
  exact kk u H1 locs1 hpo g1 g2 hS1
theorem z_callN (hx : p.tables.exec = Jvm.exec) (hb : c.code = cc) (hml : c.maxLocals = nL) (hls : ls.size = nL) (hown : s.vm.findClass own = some m.cls) (hts : ∀ w ∈ pm_TB, w.before args s = true) (hM : Met l y (Cond.code y bytes nl none :: pm_TB) rm (ct_Pc D τ q e0 H.size Ex) (ct_Qc D (va_A [(q, e0)] H.size) post L) mc ms (va_A [(q, e0)] H.size))
    (hcode : Cond.code y bytes nl none ∈ pm_TB) (hrc : rm.cells = mc) (hrs : rm.slots = ms) (hl : va_Nw (.methodLinkNest own idx y "TurnBoards") s) (hini : Cond.initialized y.cls ∈ pm_TB) (hins : Cond.instanceMethod y ∈ pm_TB) (hy : y.name = "<init>") (hd : y.cls ≠ "java/lang/invoke/MethodHandle" ∧ y.cls ≠ "java/lang/invoke/VarHandle" ∧ (parseMethodDescriptor y.desc).map (fun d => d.parameters.length) = some 0) (hR : rm.frames + 1 ≤ R.frames ∧ 8 + (nl + 11) + rm.locals ≤ R.locals)
    (hEb : ∀ (U : State) (g : JFrame) (mk : MethodId) (a : Array Value), Ex U → Ex (U.calling g mk a)) (hEx : ∀ U : State, U.heap = H → s.WarmedH U.vm → Ex U) (hK : va_K D vwCl (ct_T τ) s) (hP : va_P D vwCl (ws ++ [(q, e0)]) H) (hD : va_D A (ws ++ [(q, e0)])) (hS : va_S A s.heap H locs) (hA : ∀ q, s.heap.size ≤ q → A q) (hW8 : (rest.map fun v => v.category).sum ≤ 8) (hdg : decode cc pc = .ok (.invokespecial idx, 3)) (hf : cells + mc ≤ R.cells ∧ slots + ms ≤ R.slots)
    (kk : ∀ (u : S) (H1 : Heap) (locs1 : List Loc), post u → va_P D vwCl (ws ++ L u) H1 → va_D A (ws ++ L u) → va_S A s.heap H1 locs1 → W p l e R s m args below meth c H1 locs1 (cells + mc) (slots + ms) Q (F0 m (pc + 3) ls rest)) : W p l e R s m args below meth c H locs cells slots Q (F0 m pc ls (.ref q :: rest)) :=
  z_bk (va_runIN (As := []) (rest := rest) ⟨hx, hb, hml, hown, hts⟩ hM ⟨va_cnB 0 hts (ct_good hcode) rfl hrc hrs hl (hts _ hini) hd hR, hy, hts _ hins⟩ ⟨ct_blind hEb, z_pre hEx hK hP⟩ rfl rfl hls rfl (lv_room hW8) hdg hf) hP hD hS hA kk
theorem z_callI (hx : p.tables.exec = Jvm.exec) (hb : c.code = cc) (hml : c.maxLocals = nL) (hls : ls.size = nL) (hown : s.vm.findClass own = some m.cls) (hts : ∀ w ∈ pm_TB, w.before args s = true) (hM : Met l y (Cond.code y bytes nl none :: pm_TB) rm (ct_Pc D τ q e0 H.size Ex) (ct_Qc D (va_A [(q, e0)] H.size) post L) mc ms (va_A [(q, e0)] H.size))
    (hcode : Cond.code y bytes nl none ∈ pm_TB) (hrc : rm.cells = mc) (hrs : rm.slots = ms) (hl : Cond.methodLink own idx y ∈ pm_TB) (hini : Cond.initialized y.cls ∈ pm_TB) (hins : Cond.instanceMethod y ∈ pm_TB) (hy : y.name = "<init>") (hd : y.cls ≠ "java/lang/invoke/MethodHandle" ∧ y.cls ≠ "java/lang/invoke/VarHandle" ∧ (parseMethodDescriptor y.desc).map (fun d => d.parameters.length) = some 0) (hR : rm.frames + 1 ≤ R.frames ∧ 8 + (nl + 11) + rm.locals ≤ R.locals)
    (hEb : ∀ (U : State) (g : JFrame) (mk : MethodId) (a : Array Value), Ex U → Ex (U.calling g mk a)) (hEx : ∀ U : State, U.heap = H → s.WarmedH U.vm → Ex U) (hK : va_K D vwCl (ct_T τ) s) (hP : va_P D vwCl (ws ++ [(q, e0)]) H) (hD : va_D A (ws ++ [(q, e0)])) (hS : va_S A s.heap H locs) (hA : ∀ q, s.heap.size ≤ q → A q) (hW8 : (rest.map fun v => v.category).sum ≤ 8) (hdg : decode cc pc = .ok (.invokespecial idx, 3)) (hf : cells + mc ≤ R.cells ∧ slots + ms ≤ R.slots)
    (kk : ∀ (u : S) (H1 : Heap) (locs1 : List Loc), post u → va_P D vwCl (ws ++ L u) H1 → va_D A (ws ++ L u) → va_S A s.heap H1 locs1 → W p l e R s m args below meth c H1 locs1 (cells + mc) (slots + ms) Q (F0 m (pc + 3) ls rest)) : W p l e R s m args below meth c H locs cells slots Q (F0 m pc ls (.ref q :: rest)) :=
  z_bk (va_runI (As := []) (rest := rest) ⟨hx, hb, hml, hown, hts⟩ hM (cwI 0 hts (ct_good hcode) rfl hrc hrs (hts _ hini) (hts _ hl) (hts _ hins) hy hd hR) ⟨ct_blind hEb, z_pre hEx hK hP⟩ rfl rfl hls rfl (lv_room hW8) hdg hf) hP hD hS hA kk
/-- an array of references, empty -/
theorem z_newV {C : String} {t0 : Nat} {cA : ClassId} (hexec : p.tables.exec = Jvm.exec) (hb : c.code = cc) (hts : ∀ w ∈ pm_TB, w.before args s = true) (hown : s.vm.findClass own = some m.cls) (hcl : Cond.classLink own idx C ∈ pm_TB) (hover : va_AO C s) (hK : va_K D vwCl (ct_T τ) s) (ht : (ct_T τ)[t0]? = some (cA, .object C)) (hP : va_P D vwCl ws H) (hD : va_D A ws) (hS : va_S A s.heap H locs) (hA : ∀ q, s.heap.size ≤ q → A q) {n : Int32} {N : Nat} (hn : ¬ n < 0) (hN : n.toNatClampNeg = N) (N9 : N ≤ 1000) (hcells : cells + 1 ≤ R.cells) (hslots : slots + N ≤ R.slots) (hdg : decode cc pc = .ok (.anewarray idx, 3))
    (kk : ∀ (q : Nat) (H1 : Heap), va_P D vwCl (ws ++ [(q, .inl (cA, N, .inr (.inr (.inr (.inr (fun _ => none))))))]) H1 → va_D A (ws ++ [(q, .inl (cA, N, .inr (.inr (.inr (.inr (fun _ => none))))))]) → va_S A s.heap H1 locs → W p l e R s m args below meth c H1 locs (cells + 1) (slots + N) Q (F0 m (pc + 3) ls (.ref q :: rest))) : W p l e R s m args below meth c H locs cells slots Q (F0 m pc ls (.int n :: rest)) := by
  refine va_newq hexec hb hown (hts _ hcl) hover hK hP hD hS hA hn hN (by omega) hcells hslots hdg (fun q cB H1 k1 k2 k3 k4 => ?_)
  obtain ⟨-, -, -, -, -, e1⟩ := (hK.2 t0 _ ht).2
  obtain ⟨-, -, -, -, -, e2⟩ := (k1.2 5 _ rfl).2
  rw [e1] at e2
  cases e2
  exact kk q H1 k2 k3 k4
end CTC
