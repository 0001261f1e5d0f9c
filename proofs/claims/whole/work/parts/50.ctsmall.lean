def ct_Pc (D : va_G) (τ : ClassId × ClassId × ClassId × ClassId × ClassId) (h0 : Nat) (e0 : va_E) (sz : Nat) (Ex : State → Prop) : Array Value → State → Prop := va_Pc [.ref h0] (fun U => U.heap.size = sz ∧ va_P D vwCl [(h0, e0)] U.heap ∧ va_K D vwCl (ct_T τ) U ∧ va_D (fun _ => True) [(h0, e0)] ∧ Ex U)
def ct_Qc {S : Type} (D : va_G) (A : Nat → Prop) (post : S → Prop) (L : S → va_W) : Array Value → State → Outcome → State → Prop := va_Qv post (fun u t => va_P D vwCl (L u) t.heap ∧ va_D A (L u)) A
section CTP
variable {p : Program} {l : Launch} {e : Env} {R : Room} {s : State} {m : MethodId} {args : Array Value} {below : List Frame} {meth : Method} {c : Code} {H H0 : Heap} {locs : List Loc} {cells slots : Nat} {Q : State → Prop}
variable {cc : ByteArray} {pc : Nat} {ls : Array Slot} {rest : List Value} {D : va_G} {A : Nat → Prop} {ws : va_W} {τ : ClassId × ClassId × ClassId × ClassId × ClassId}
theorem z_putI {own : String} {idx ci k : Nat} (hexec : p.tables.exec = Jvm.exec) (hb : c.code = cc) (hts : ∀ w ∈ pm_TB, w.before args s = true) (hown : s.vm.findClass own = some m.cls) (hF : pm_FP own idx ci k .int) (hK : va_K D vwCl (ct_T τ) s) (hP : va_P D vwCl ws H) (hD : va_D A ws) (hS : va_S A H0 H locs) (q0 : Nat) {a : Nat} {v : Int32} {fs : List Value} (he : ws[q0]? = some (a, .inr (ci, fs))) (hl : k < fs.length) (hdg : decode cc pc = .ok (.putfield idx, 3))
    (kk : ∀ (H1 : Heap) (locs1 : List Loc), va_P D vwCl (ws.set q0 (a, .inr (ci, fs.set k (.int v)))) H1 → va_D A (ws.set q0 (a, .inr (ci, fs.set k (.int v)))) → va_S A H0 H1 locs1 → W p l e R s m args below meth c H1 locs1 cells slots Q (F0 m (pc + 3) ls rest)) : W p l e R s m args below meth c H locs cells slots Q (F0 m pc ls (.int v :: .ref a :: rest)) := by
  obtain ⟨C, T, N, ty0, f1, f2, f3, f4, f5, f6, f7, f8⟩ := hF
  exact va_put (D := D) (ci := ci) (v := .int v) (ty := .int) (C := C) (T := T) (N := N) hexec hb hts f3 ty0 f5 f6 hown hK hP hD hS q0 he f1 k f2 (hts _ f4) (fun _ h9 => h9) f7 f8 rfl rfl hl hdg (fun H1 locs1 g1 g2 g3 => kk H1 locs1 g1 g2 g3)
end CTP
def cl_Walk (τ : ClassId × ClassId × ClassId × ClassId × ClassId) (u : Nat → Nat) : va_W := [((u 0), .inr (5, [.int 0, .int 0, .int 0, .int 0, .ref (u 1), .ref (u 2)])), ((u 1), ct_I τ 6), ((u 2), ct_Z τ 6)]
set_option maxHeartbeats 4000000 in
set_option maxRecDepth 100000 in
theorem c_Walk (l : Launch) (D : va_G) (τ : ClassId × ClassId × ClassId × ClassId × ClassId) (h0 sz : Nat) : Met l ⟨RX5, "<init>", "()V"⟩ (Cond.code ⟨RX5, "<init>", "()V"⟩ prog_7_method_1_code 1 none :: pm_TB) ({ frames := 1, cells := 2, slots := 12, locals := 12 }) (ct_Pc D τ h0 (.inr (5, [.int 0, .int 0, .int 0, .int 0, .null, .null])) sz (fun _ => True)) (ct_Qc D (va_A [(h0, .inr (5, [.int 0, .int 0, .int 0, .int 0, .null, .null]))] sz) (fun u => u 0 = h0) (cl_Walk τ)) 2 12 (va_A [(h0, .inr (5, [.int 0, .int 0, .int 0, .int 0, .null, .null]))] sz) := by
  refine Met.ofW (cc := prog_7_method_1_code) (maxL := 1) (ret := none) (by decide) rfl ?_
  intro p e s m args below meth c s₁ B hml hv
  obtain ⟨rfl, hsz, hP, hK, hD0, hE⟩ := hv
  have hx := B.exec
  have hb := B.bytes
  have hr := B.returns
  have hts0 := atoms_spec (ws := (Cond.code ⟨RX5, "<init>", "()V"⟩ prog_7_method_1_code 1 none :: pm_TB)) B.pre
  have hts : ∀ w ∈ pm_TB, w.before _ s = true := fun w hw => hts0 w (List.mem_cons_of_mem _ hw)
  have hown : s.vm.findClass RX5 = some m.cls := findClass_of_methodNamed B.named
  have hlocks := B.notSynchronized
  have hin : meth.name = "<init>" := (name_of_methodNamed B.named B.method).1
  subst hsz
  have hD := hD0.self (sz := s.heap.size)
  generalize hAe : va_A [(h0, .inr (5, [.int 0, .int 0, .int 0, .int 0, .null, .null]))] s.heap.size = A at hD ⊢
  have hA : ∀ q : Nat, s.heap.size ≤ q → A q := fun q h => by rw [← hAe]; exact Or.inr h
  have hS : va_S A s.heap s.heap [] := va_S.rf
  have hP : va_P D vwCl [(h0, .inr (5, [.int 0, .int 0, .int 0, .int 0, .null, .null]))] s.heap := hP
  have hl := lv_entry ([.ref h0]) (n := 1) (Nat.le_of_ble_eq_true rfl)
  rw [lg_entry_eq]
  generalize (lg_sl ([.ref h0]) ++ List.replicate (1 - (lg_sl ([.ref h0])).length) Slot.unset).toArray = ls at hl ⊢
  have hl : lv_has ls 1 [(0, .ref h0)] := hl
  refine lv_aload_n hx hb dt_Walk_0 rfl (lv_at hl 0 rfl) ?_
  refine W.objInit hx hb hown (hts _ wo_Walk) (hts _ w_obi) (hts _ w_obc) rfl (by rw [hml]; exact hl.1) rfl dt_Walk_1 (Nat.le_of_ble_eq_true rfl) (Nat.le_of_ble_eq_true rfl) ?_
  refine W.eq (g2 := F0 m 4 ls []) rfl ?_
  refine lv_aload_n hx hb dt_Walk_4 rfl (lv_at hl 0 rfl) ?_
  refine lv_bipush (v := 6) hx hb dt_Walk_5 (by decide) ?_
  refine z_newI (N := 6) hx hb hts hK hP hD hS hA (by decide) (by decide) (by decide) (Nat.le_of_ble_eq_true rfl) (Nat.le_of_ble_eq_true rfl) dt_Walk_7 (fun q1 H hP hD hS => ?_)
  have hP : va_P D vwCl ([(h0, .inr (5, [.int 0, .int 0, .int 0, .int 0, .null, .null])), (q1, ct_I τ 6)]) H := hP
  have hD : va_D A ([(h0, .inr (5, [.int 0, .int 0, .int 0, .int 0, .null, .null])), (q1, ct_I τ 6)]) := hD
  refine W.widen (k := 1) (n := 6) (by omega) (by omega) ?_
  refine z_putR (own := RX5) hx hb hts hown hin fr_Walk_9 hK hP hD hS 0 rfl (Nat.le_of_ble_eq_true rfl) dt_Walk_9 (fun H locs hP hD hS => ?_)
  have hP : va_P D vwCl ([(h0, .inr (5, [.int 0, .int 0, .int 0, .int 0, .ref q1, .null])), (q1, ct_I τ 6)]) H := hP
  have hD : va_D A ([(h0, .inr (5, [.int 0, .int 0, .int 0, .int 0, .ref q1, .null])), (q1, ct_I τ 6)]) := hD
  refine lv_aload_n hx hb dt_Walk_12 rfl (lv_at hl 0 rfl) ?_
  refine lv_bipush (v := 6) hx hb dt_Walk_13 (by decide) ?_
  refine z_newZ (N := 6) hx hb hts hK hP hD hS hA (by decide) (by decide) (by decide) (Nat.le_of_ble_eq_true rfl) (Nat.le_of_ble_eq_true rfl) dt_Walk_15 (fun q2 H hP hD hS => ?_)
  have hP : va_P D vwCl ([(h0, .inr (5, [.int 0, .int 0, .int 0, .int 0, .ref q1, .null])), (q1, ct_I τ 6), (q2, ct_Z τ 6)]) H := hP
  have hD : va_D A ([(h0, .inr (5, [.int 0, .int 0, .int 0, .int 0, .ref q1, .null])), (q1, ct_I τ 6), (q2, ct_Z τ 6)]) := hD
  refine W.widen (k := 2) (n := 12) (by omega) (by omega) ?_
  refine z_putR (own := RX5) hx hb hts hown hin fr_Walk_15 hK hP hD hS 0 rfl (Nat.le_of_ble_eq_true rfl) dt_Walk_17 (fun H locs hP hD hS => ?_)
  have hP : va_P D vwCl ([(h0, .inr (5, [.int 0, .int 0, .int 0, .int 0, .ref q1, .ref q2])), (q1, ct_I τ 6), (q2, ct_Z τ 6)]) H := hP
  have hD : va_D A ([(h0, .inr (5, [.int 0, .int 0, .int 0, .int 0, .ref q1, .ref q2])), (q1, ct_I τ 6), (q2, ct_Z τ 6)]) := hD
  exact W.vret hx hb hr (fun t ht _ => ⟨⟨(fun j => [h0, q1, q2].getD j 0), rfl, rfl, by rw [ht]; exact hP, hD⟩, hS.F ht⟩) hS.2.2 dt_Walk_20
def cl_Sheet (τ : ClassId × ClassId × ClassId × ClassId × ClassId) (u : Nat → Nat) : va_W := [((u 0), .inr (3, [.int 0, .int 0, .int 0, .ref (u 1)])), ((u 1), ct_I τ 64)]
set_option maxHeartbeats 4000000 in
set_option maxRecDepth 100000 in
theorem c_Sheet (l : Launch) (D : va_G) (τ : ClassId × ClassId × ClassId × ClassId × ClassId) (h0 sz : Nat) : Met l ⟨RX3, "<init>", "()V"⟩ (Cond.code ⟨RX3, "<init>", "()V"⟩ prog_5_method_1_code 1 none :: pm_TB) ({ frames := 1, cells := 1, slots := 64, locals := 12 }) (ct_Pc D τ h0 (.inr (3, [.int 0, .int 0, .int 0, .null])) sz (fun _ => True)) (ct_Qc D (va_A [(h0, .inr (3, [.int 0, .int 0, .int 0, .null]))] sz) (fun u => u 0 = h0) (cl_Sheet τ)) 1 64 (va_A [(h0, .inr (3, [.int 0, .int 0, .int 0, .null]))] sz) := by
  refine Met.ofW (cc := prog_5_method_1_code) (maxL := 1) (ret := none) (by decide) rfl ?_
  intro p e s m args below meth c s₁ B hml hv
  obtain ⟨rfl, hsz, hP, hK, hD0, hE⟩ := hv
  have hx := B.exec
  have hb := B.bytes
  have hr := B.returns
  have hts0 := atoms_spec (ws := (Cond.code ⟨RX3, "<init>", "()V"⟩ prog_5_method_1_code 1 none :: pm_TB)) B.pre
  have hts : ∀ w ∈ pm_TB, w.before _ s = true := fun w hw => hts0 w (List.mem_cons_of_mem _ hw)
  have hown : s.vm.findClass RX3 = some m.cls := findClass_of_methodNamed B.named
  have hlocks := B.notSynchronized
  have hin : meth.name = "<init>" := (name_of_methodNamed B.named B.method).1
  subst hsz
  have hD := hD0.self (sz := s.heap.size)
  generalize hAe : va_A [(h0, .inr (3, [.int 0, .int 0, .int 0, .null]))] s.heap.size = A at hD ⊢
  have hA : ∀ q : Nat, s.heap.size ≤ q → A q := fun q h => by rw [← hAe]; exact Or.inr h
  have hS : va_S A s.heap s.heap [] := va_S.rf
  have hP : va_P D vwCl [(h0, .inr (3, [.int 0, .int 0, .int 0, .null]))] s.heap := hP
  have hl := lv_entry ([.ref h0]) (n := 1) (Nat.le_of_ble_eq_true rfl)
  rw [lg_entry_eq]
  generalize (lg_sl ([.ref h0]) ++ List.replicate (1 - (lg_sl ([.ref h0])).length) Slot.unset).toArray = ls at hl ⊢
  have hl : lv_has ls 1 [(0, .ref h0)] := hl
  refine lv_aload_n hx hb dt_Sheet_0 rfl (lv_at hl 0 rfl) ?_
  refine W.objInit hx hb hown (hts _ wo_Sheet) (hts _ w_obi) (hts _ w_obc) rfl (by rw [hml]; exact hl.1) rfl dt_Sheet_1 (Nat.le_of_ble_eq_true rfl) (Nat.le_of_ble_eq_true rfl) ?_
  refine W.eq (g2 := F0 m 4 ls []) rfl ?_
  refine lv_aload_n hx hb dt_Sheet_4 rfl (lv_at hl 0 rfl) ?_
  refine lv_bipush (v := 64) hx hb dt_Sheet_5 (by decide) ?_
  refine z_newI (N := 64) hx hb hts hK hP hD hS hA (by decide) (by decide) (by decide) (Nat.le_of_ble_eq_true rfl) (Nat.le_of_ble_eq_true rfl) dt_Sheet_7 (fun q1 H hP hD hS => ?_)
  have hP : va_P D vwCl ([(h0, .inr (3, [.int 0, .int 0, .int 0, .null])), (q1, ct_I τ 64)]) H := hP
  have hD : va_D A ([(h0, .inr (3, [.int 0, .int 0, .int 0, .null])), (q1, ct_I τ 64)]) := hD
  refine W.widen (k := 1) (n := 64) (by omega) (by omega) ?_
  refine z_putR (own := RX3) hx hb hts hown hin fr_Sheet_9 hK hP hD hS 0 rfl (Nat.le_of_ble_eq_true rfl) dt_Sheet_9 (fun H locs hP hD hS => ?_)
  have hP : va_P D vwCl ([(h0, .inr (3, [.int 0, .int 0, .int 0, .ref q1])), (q1, ct_I τ 64)]) H := hP
  have hD : va_D A ([(h0, .inr (3, [.int 0, .int 0, .int 0, .ref q1])), (q1, ct_I τ 64)]) := hD
  exact W.vret hx hb hr (fun t ht _ => ⟨⟨(fun j => [h0, q1].getD j 0), rfl, rfl, by rw [ht]; exact hP, hD⟩, hS.F ht⟩) hS.2.2 dt_Sheet_12
def cl_Board (τ : ClassId × ClassId × ClassId × ClassId × ClassId) (u : Nat → Nat) : va_W := [((u 0), .inr (1, [.int 0, .int 0, .int 0, .ref (u 1), .ref (u 2), .ref (u 3), .ref (u 4), .ref (u 5), .ref (u 6), .ref (u 7)])), ((u 1), ct_I τ 10), ((u 2), ct_I τ 10), ((u 3), ct_I τ 10), ((u 4), ct_Z τ 10), ((u 5), ct_I τ 6), ((u 6), ct_I τ 6), ((u 7), ct_Z τ 6)]
set_option maxHeartbeats 4000000 in
set_option maxRecDepth 100000 in
theorem c_Board (l : Launch) (D : va_G) (τ : ClassId × ClassId × ClassId × ClassId × ClassId) (h0 sz : Nat) : Met l ⟨RX1, "<init>", "()V"⟩ (Cond.code ⟨RX1, "<init>", "()V"⟩ prog_3_method_1_code 1 none :: pm_TB) ({ frames := 1, cells := 7, slots := 58, locals := 12 }) (ct_Pc D τ h0 (.inr (1, [.int 0, .int 0, .int 0, .null, .null, .null, .null, .null, .null, .null])) sz (fun _ => True)) (ct_Qc D (va_A [(h0, .inr (1, [.int 0, .int 0, .int 0, .null, .null, .null, .null, .null, .null, .null]))] sz) (fun u => u 0 = h0) (cl_Board τ)) 7 58 (va_A [(h0, .inr (1, [.int 0, .int 0, .int 0, .null, .null, .null, .null, .null, .null, .null]))] sz) := by
  refine Met.ofW (cc := prog_3_method_1_code) (maxL := 1) (ret := none) (by decide) rfl ?_
  intro p e s m args below meth c s₁ B hml hv
  obtain ⟨rfl, hsz, hP, hK, hD0, hE⟩ := hv
  have hx := B.exec
  have hb := B.bytes
  have hr := B.returns
  have hts0 := atoms_spec (ws := (Cond.code ⟨RX1, "<init>", "()V"⟩ prog_3_method_1_code 1 none :: pm_TB)) B.pre
  have hts : ∀ w ∈ pm_TB, w.before _ s = true := fun w hw => hts0 w (List.mem_cons_of_mem _ hw)
  have hown : s.vm.findClass RX1 = some m.cls := findClass_of_methodNamed B.named
  have hlocks := B.notSynchronized
  have hin : meth.name = "<init>" := (name_of_methodNamed B.named B.method).1
  subst hsz
  have hD := hD0.self (sz := s.heap.size)
  generalize hAe : va_A [(h0, .inr (1, [.int 0, .int 0, .int 0, .null, .null, .null, .null, .null, .null, .null]))] s.heap.size = A at hD ⊢
  have hA : ∀ q : Nat, s.heap.size ≤ q → A q := fun q h => by rw [← hAe]; exact Or.inr h
  have hS : va_S A s.heap s.heap [] := va_S.rf
  have hP : va_P D vwCl [(h0, .inr (1, [.int 0, .int 0, .int 0, .null, .null, .null, .null, .null, .null, .null]))] s.heap := hP
  have hl := lv_entry ([.ref h0]) (n := 1) (Nat.le_of_ble_eq_true rfl)
  rw [lg_entry_eq]
  generalize (lg_sl ([.ref h0]) ++ List.replicate (1 - (lg_sl ([.ref h0])).length) Slot.unset).toArray = ls at hl ⊢
  have hl : lv_has ls 1 [(0, .ref h0)] := hl
  refine lv_aload_n hx hb dt_Board_0 rfl (lv_at hl 0 rfl) ?_
  refine W.objInit hx hb hown (hts _ wo_Board) (hts _ w_obi) (hts _ w_obc) rfl (by rw [hml]; exact hl.1) rfl dt_Board_1 (Nat.le_of_ble_eq_true rfl) (Nat.le_of_ble_eq_true rfl) ?_
  refine W.eq (g2 := F0 m 4 ls []) rfl ?_
  refine lv_aload_n hx hb dt_Board_4 rfl (lv_at hl 0 rfl) ?_
  refine lv_bipush (v := 10) hx hb dt_Board_5 (by decide) ?_
  refine z_newI (N := 10) hx hb hts hK hP hD hS hA (by decide) (by decide) (by decide) (Nat.le_of_ble_eq_true rfl) (Nat.le_of_ble_eq_true rfl) dt_Board_7 (fun q1 H hP hD hS => ?_)
  have hP : va_P D vwCl ([(h0, .inr (1, [.int 0, .int 0, .int 0, .null, .null, .null, .null, .null, .null, .null])), (q1, ct_I τ 10)]) H := hP
  have hD : va_D A ([(h0, .inr (1, [.int 0, .int 0, .int 0, .null, .null, .null, .null, .null, .null, .null])), (q1, ct_I τ 10)]) := hD
  refine W.widen (k := 1) (n := 10) (by omega) (by omega) ?_
  refine z_putR (own := RX1) hx hb hts hown hin fr_Board_9 hK hP hD hS 0 rfl (Nat.le_of_ble_eq_true rfl) dt_Board_9 (fun H locs hP hD hS => ?_)
  have hP : va_P D vwCl ([(h0, .inr (1, [.int 0, .int 0, .int 0, .ref q1, .null, .null, .null, .null, .null, .null])), (q1, ct_I τ 10)]) H := hP
  have hD : va_D A ([(h0, .inr (1, [.int 0, .int 0, .int 0, .ref q1, .null, .null, .null, .null, .null, .null])), (q1, ct_I τ 10)]) := hD
  refine lv_aload_n hx hb dt_Board_12 rfl (lv_at hl 0 rfl) ?_
  refine lv_bipush (v := 10) hx hb dt_Board_13 (by decide) ?_
  refine z_newI (N := 10) hx hb hts hK hP hD hS hA (by decide) (by decide) (by decide) (Nat.le_of_ble_eq_true rfl) (Nat.le_of_ble_eq_true rfl) dt_Board_15 (fun q2 H hP hD hS => ?_)
  have hP : va_P D vwCl ([(h0, .inr (1, [.int 0, .int 0, .int 0, .ref q1, .null, .null, .null, .null, .null, .null])), (q1, ct_I τ 10), (q2, ct_I τ 10)]) H := hP
  have hD : va_D A ([(h0, .inr (1, [.int 0, .int 0, .int 0, .ref q1, .null, .null, .null, .null, .null, .null])), (q1, ct_I τ 10), (q2, ct_I τ 10)]) := hD
  refine W.widen (k := 2) (n := 20) (by omega) (by omega) ?_
  refine z_putR (own := RX1) hx hb hts hown hin fr_Board_15 hK hP hD hS 0 rfl (Nat.le_of_ble_eq_true rfl) dt_Board_17 (fun H locs hP hD hS => ?_)
  have hP : va_P D vwCl ([(h0, .inr (1, [.int 0, .int 0, .int 0, .ref q1, .ref q2, .null, .null, .null, .null, .null])), (q1, ct_I τ 10), (q2, ct_I τ 10)]) H := hP
  have hD : va_D A ([(h0, .inr (1, [.int 0, .int 0, .int 0, .ref q1, .ref q2, .null, .null, .null, .null, .null])), (q1, ct_I τ 10), (q2, ct_I τ 10)]) := hD
  refine lv_aload_n hx hb dt_Board_20 rfl (lv_at hl 0 rfl) ?_
  refine lv_bipush (v := 10) hx hb dt_Board_21 (by decide) ?_
  refine z_newI (N := 10) hx hb hts hK hP hD hS hA (by decide) (by decide) (by decide) (Nat.le_of_ble_eq_true rfl) (Nat.le_of_ble_eq_true rfl) dt_Board_23 (fun q3 H hP hD hS => ?_)
  have hP : va_P D vwCl ([(h0, .inr (1, [.int 0, .int 0, .int 0, .ref q1, .ref q2, .null, .null, .null, .null, .null])), (q1, ct_I τ 10), (q2, ct_I τ 10), (q3, ct_I τ 10)]) H := hP
  have hD : va_D A ([(h0, .inr (1, [.int 0, .int 0, .int 0, .ref q1, .ref q2, .null, .null, .null, .null, .null])), (q1, ct_I τ 10), (q2, ct_I τ 10), (q3, ct_I τ 10)]) := hD
  refine W.widen (k := 3) (n := 30) (by omega) (by omega) ?_
  refine z_putR (own := RX1) hx hb hts hown hin fr_Board_18 hK hP hD hS 0 rfl (Nat.le_of_ble_eq_true rfl) dt_Board_25 (fun H locs hP hD hS => ?_)
  have hP : va_P D vwCl ([(h0, .inr (1, [.int 0, .int 0, .int 0, .ref q1, .ref q2, .ref q3, .null, .null, .null, .null])), (q1, ct_I τ 10), (q2, ct_I τ 10), (q3, ct_I τ 10)]) H := hP
  have hD : va_D A ([(h0, .inr (1, [.int 0, .int 0, .int 0, .ref q1, .ref q2, .ref q3, .null, .null, .null, .null])), (q1, ct_I τ 10), (q2, ct_I τ 10), (q3, ct_I τ 10)]) := hD
  refine lv_aload_n hx hb dt_Board_28 rfl (lv_at hl 0 rfl) ?_
  refine lv_bipush (v := 10) hx hb dt_Board_29 (by decide) ?_
  refine z_newZ (N := 10) hx hb hts hK hP hD hS hA (by decide) (by decide) (by decide) (Nat.le_of_ble_eq_true rfl) (Nat.le_of_ble_eq_true rfl) dt_Board_31 (fun q4 H hP hD hS => ?_)
  have hP : va_P D vwCl ([(h0, .inr (1, [.int 0, .int 0, .int 0, .ref q1, .ref q2, .ref q3, .null, .null, .null, .null])), (q1, ct_I τ 10), (q2, ct_I τ 10), (q3, ct_I τ 10), (q4, ct_Z τ 10)]) H := hP
  have hD : va_D A ([(h0, .inr (1, [.int 0, .int 0, .int 0, .ref q1, .ref q2, .ref q3, .null, .null, .null, .null])), (q1, ct_I τ 10), (q2, ct_I τ 10), (q3, ct_I τ 10), (q4, ct_Z τ 10)]) := hD
  refine W.widen (k := 4) (n := 40) (by omega) (by omega) ?_
  refine z_putR (own := RX1) hx hb hts hown hin fr_Board_21 hK hP hD hS 0 rfl (Nat.le_of_ble_eq_true rfl) dt_Board_33 (fun H locs hP hD hS => ?_)
  have hP : va_P D vwCl ([(h0, .inr (1, [.int 0, .int 0, .int 0, .ref q1, .ref q2, .ref q3, .ref q4, .null, .null, .null])), (q1, ct_I τ 10), (q2, ct_I τ 10), (q3, ct_I τ 10), (q4, ct_Z τ 10)]) H := hP
  have hD : va_D A ([(h0, .inr (1, [.int 0, .int 0, .int 0, .ref q1, .ref q2, .ref q3, .ref q4, .null, .null, .null])), (q1, ct_I τ 10), (q2, ct_I τ 10), (q3, ct_I τ 10), (q4, ct_Z τ 10)]) := hD
  refine lv_aload_n hx hb dt_Board_36 rfl (lv_at hl 0 rfl) ?_
  refine lv_bipush (v := 6) hx hb dt_Board_37 (by decide) ?_
  refine z_newI (N := 6) hx hb hts hK hP hD hS hA (by decide) (by decide) (by decide) (Nat.le_of_ble_eq_true rfl) (Nat.le_of_ble_eq_true rfl) dt_Board_39 (fun q5 H hP hD hS => ?_)
  have hP : va_P D vwCl ([(h0, .inr (1, [.int 0, .int 0, .int 0, .ref q1, .ref q2, .ref q3, .ref q4, .null, .null, .null])), (q1, ct_I τ 10), (q2, ct_I τ 10), (q3, ct_I τ 10), (q4, ct_Z τ 10), (q5, ct_I τ 6)]) H := hP
  have hD : va_D A ([(h0, .inr (1, [.int 0, .int 0, .int 0, .ref q1, .ref q2, .ref q3, .ref q4, .null, .null, .null])), (q1, ct_I τ 10), (q2, ct_I τ 10), (q3, ct_I τ 10), (q4, ct_Z τ 10), (q5, ct_I τ 6)]) := hD
  refine W.widen (k := 5) (n := 46) (by omega) (by omega) ?_
  refine z_putR (own := RX1) hx hb hts hown hin fr_Board_25 hK hP hD hS 0 rfl (Nat.le_of_ble_eq_true rfl) dt_Board_41 (fun H locs hP hD hS => ?_)
  have hP : va_P D vwCl ([(h0, .inr (1, [.int 0, .int 0, .int 0, .ref q1, .ref q2, .ref q3, .ref q4, .ref q5, .null, .null])), (q1, ct_I τ 10), (q2, ct_I τ 10), (q3, ct_I τ 10), (q4, ct_Z τ 10), (q5, ct_I τ 6)]) H := hP
  have hD : va_D A ([(h0, .inr (1, [.int 0, .int 0, .int 0, .ref q1, .ref q2, .ref q3, .ref q4, .ref q5, .null, .null])), (q1, ct_I τ 10), (q2, ct_I τ 10), (q3, ct_I τ 10), (q4, ct_Z τ 10), (q5, ct_I τ 6)]) := hD
  refine lv_aload_n hx hb dt_Board_44 rfl (lv_at hl 0 rfl) ?_
  refine lv_bipush (v := 6) hx hb dt_Board_45 (by decide) ?_
  refine z_newI (N := 6) hx hb hts hK hP hD hS hA (by decide) (by decide) (by decide) (Nat.le_of_ble_eq_true rfl) (Nat.le_of_ble_eq_true rfl) dt_Board_47 (fun q6 H hP hD hS => ?_)
  have hP : va_P D vwCl ([(h0, .inr (1, [.int 0, .int 0, .int 0, .ref q1, .ref q2, .ref q3, .ref q4, .ref q5, .null, .null])), (q1, ct_I τ 10), (q2, ct_I τ 10), (q3, ct_I τ 10), (q4, ct_Z τ 10), (q5, ct_I τ 6), (q6, ct_I τ 6)]) H := hP
  have hD : va_D A ([(h0, .inr (1, [.int 0, .int 0, .int 0, .ref q1, .ref q2, .ref q3, .ref q4, .ref q5, .null, .null])), (q1, ct_I τ 10), (q2, ct_I τ 10), (q3, ct_I τ 10), (q4, ct_Z τ 10), (q5, ct_I τ 6), (q6, ct_I τ 6)]) := hD
  refine W.widen (k := 6) (n := 52) (by omega) (by omega) ?_
  refine z_putR (own := RX1) hx hb hts hown hin fr_Board_28 hK hP hD hS 0 rfl (Nat.le_of_ble_eq_true rfl) dt_Board_49 (fun H locs hP hD hS => ?_)
  have hP : va_P D vwCl ([(h0, .inr (1, [.int 0, .int 0, .int 0, .ref q1, .ref q2, .ref q3, .ref q4, .ref q5, .ref q6, .null])), (q1, ct_I τ 10), (q2, ct_I τ 10), (q3, ct_I τ 10), (q4, ct_Z τ 10), (q5, ct_I τ 6), (q6, ct_I τ 6)]) H := hP
  have hD : va_D A ([(h0, .inr (1, [.int 0, .int 0, .int 0, .ref q1, .ref q2, .ref q3, .ref q4, .ref q5, .ref q6, .null])), (q1, ct_I τ 10), (q2, ct_I τ 10), (q3, ct_I τ 10), (q4, ct_Z τ 10), (q5, ct_I τ 6), (q6, ct_I τ 6)]) := hD
  refine lv_aload_n hx hb dt_Board_52 rfl (lv_at hl 0 rfl) ?_
  refine lv_bipush (v := 6) hx hb dt_Board_53 (by decide) ?_
  refine z_newZ (N := 6) hx hb hts hK hP hD hS hA (by decide) (by decide) (by decide) (Nat.le_of_ble_eq_true rfl) (Nat.le_of_ble_eq_true rfl) dt_Board_55 (fun q7 H hP hD hS => ?_)
  have hP : va_P D vwCl ([(h0, .inr (1, [.int 0, .int 0, .int 0, .ref q1, .ref q2, .ref q3, .ref q4, .ref q5, .ref q6, .null])), (q1, ct_I τ 10), (q2, ct_I τ 10), (q3, ct_I τ 10), (q4, ct_Z τ 10), (q5, ct_I τ 6), (q6, ct_I τ 6), (q7, ct_Z τ 6)]) H := hP
  have hD : va_D A ([(h0, .inr (1, [.int 0, .int 0, .int 0, .ref q1, .ref q2, .ref q3, .ref q4, .ref q5, .ref q6, .null])), (q1, ct_I τ 10), (q2, ct_I τ 10), (q3, ct_I τ 10), (q4, ct_Z τ 10), (q5, ct_I τ 6), (q6, ct_I τ 6), (q7, ct_Z τ 6)]) := hD
  refine W.widen (k := 7) (n := 58) (by omega) (by omega) ?_
  refine z_putR (own := RX1) hx hb hts hown hin fr_Board_31 hK hP hD hS 0 rfl (Nat.le_of_ble_eq_true rfl) dt_Board_57 (fun H locs hP hD hS => ?_)
  have hP : va_P D vwCl ([(h0, .inr (1, [.int 0, .int 0, .int 0, .ref q1, .ref q2, .ref q3, .ref q4, .ref q5, .ref q6, .ref q7])), (q1, ct_I τ 10), (q2, ct_I τ 10), (q3, ct_I τ 10), (q4, ct_Z τ 10), (q5, ct_I τ 6), (q6, ct_I τ 6), (q7, ct_Z τ 6)]) H := hP
  have hD : va_D A ([(h0, .inr (1, [.int 0, .int 0, .int 0, .ref q1, .ref q2, .ref q3, .ref q4, .ref q5, .ref q6, .ref q7])), (q1, ct_I τ 10), (q2, ct_I τ 10), (q3, ct_I τ 10), (q4, ct_Z τ 10), (q5, ct_I τ 6), (q6, ct_I τ 6), (q7, ct_Z τ 6)]) := hD
  exact W.vret hx hb hr (fun t ht _ => ⟨⟨(fun j => [h0, q1, q2, q3, q4, q5, q6, q7].getD j 0), rfl, rfl, by rw [ht]; exact hP, hD⟩, hS.F ht⟩) hS.2.2 dt_Board_60
def cl_Acts (τ : ClassId × ClassId × ClassId × ClassId × ClassId) (u : Nat → Nat) : va_W := [((u 0), .inr (0, [.int 0, .int 0, .ref (u 1)]))] ++ (ct_M τ (u 1) 8 10)
set_option maxHeartbeats 4000000 in
set_option maxRecDepth 100000 in
theorem c_Acts (l : Launch) (D : va_G) (τ : ClassId × ClassId × ClassId × ClassId × ClassId) (h0 sz : Nat) : Met l ⟨RX0, "<init>", "()V"⟩ (Cond.code ⟨RX0, "<init>", "()V"⟩ prog_2_method_1_code 1 none :: pm_TB) ({ frames := 1, cells := 9, slots := 88, locals := 12 }) (ct_Pc D τ h0 (.inr (0, [.int 0, .int 0, .null])) sz (ct_AA)) (ct_Qc D (va_A [(h0, .inr (0, [.int 0, .int 0, .null]))] sz) (fun u => u 0 = h0) (cl_Acts τ)) 9 88 (va_A [(h0, .inr (0, [.int 0, .int 0, .null]))] sz) := by
  refine Met.ofW (cc := prog_2_method_1_code) (maxL := 1) (ret := none) (by decide) rfl ?_
  intro p e s m args below meth c s₁ B hml hv
  obtain ⟨rfl, hsz, hP, hK, hD0, hE⟩ := hv
  have hx := B.exec
  have hb := B.bytes
  have hr := B.returns
  have hts0 := atoms_spec (ws := (Cond.code ⟨RX0, "<init>", "()V"⟩ prog_2_method_1_code 1 none :: pm_TB)) B.pre
  have hts : ∀ w ∈ pm_TB, w.before _ s = true := fun w hw => hts0 w (List.mem_cons_of_mem _ hw)
  have hown : s.vm.findClass RX0 = some m.cls := findClass_of_methodNamed B.named
  have hlocks := B.notSynchronized
  have hin : meth.name = "<init>" := (name_of_methodNamed B.named B.method).1
  subst hsz
  have hD := hD0.self (sz := s.heap.size)
  generalize hAe : va_A [(h0, .inr (0, [.int 0, .int 0, .null]))] s.heap.size = A at hD ⊢
  have hA : ∀ q : Nat, s.heap.size ≤ q → A q := fun q h => by rw [← hAe]; exact Or.inr h
  have hS : va_S A s.heap s.heap [] := va_S.rf
  have hP : va_P D vwCl [(h0, .inr (0, [.int 0, .int 0, .null]))] s.heap := hP
  have hl := lv_entry ([.ref h0]) (n := 1) (Nat.le_of_ble_eq_true rfl)
  rw [lg_entry_eq]
  generalize (lg_sl ([.ref h0]) ++ List.replicate (1 - (lg_sl ([.ref h0])).length) Slot.unset).toArray = ls at hl ⊢
  have hl : lv_has ls 1 [(0, .ref h0)] := hl
  refine lv_aload_n hx hb dt_Acts_0 rfl (lv_at hl 0 rfl) ?_
  refine W.objInit hx hb hown (hts _ wo_Acts) (hts _ w_obi) (hts _ w_obc) rfl (by rw [hml]; exact hl.1) rfl dt_Acts_1 (Nat.le_of_ble_eq_true rfl) (Nat.le_of_ble_eq_true rfl) ?_
  refine W.eq (g2 := F0 m 4 ls []) rfl ?_
  refine lv_aload_n hx hb dt_Acts_4 rfl (lv_at hl 0 rfl) ?_
  refine lv_bipush (v := 8) hx hb dt_Acts_5 (by decide) ?_
  refine lv_bipush (v := 10) hx hb dt_Acts_7 (by decide) ?_
  refine z_multi (N := 8) (K := 10) hx hb hts hown wm_Acts hE hK hP hD hS hA dt_Acts_9 (by decide) (by decide) (by decide) (by decide) (by decide) (by decide) (by decide) (Nat.le_of_ble_eq_true rfl) (Nat.le_of_ble_eq_true rfl) (fun q1 H locs hP hD hS => ?_)
  have hP : va_P D vwCl ([(h0, .inr (0, [.int 0, .int 0, .null]))] ++ (ct_M τ q1 8 10)) H := hP
  have hD : va_D A ([(h0, .inr (0, [.int 0, .int 0, .null]))] ++ (ct_M τ q1 8 10)) := hD
  refine W.widen (k := 9) (n := 88) (by omega) (by omega) ?_
  refine z_putR (own := RX0) hx hb hts hown hin fr_Acts_11 hK hP hD hS 0 rfl (Nat.le_of_ble_eq_true rfl) dt_Acts_13 (fun H locs hP hD hS => ?_)
  have hP : va_P D vwCl ([(h0, .inr (0, [.int 0, .int 0, .ref q1]))] ++ (ct_M τ q1 8 10)) H := hP
  have hD : va_D A ([(h0, .inr (0, [.int 0, .int 0, .ref q1]))] ++ (ct_M τ q1 8 10)) := hD
  exact W.vret hx hb hr (fun t ht _ => ⟨⟨(fun j => [h0, q1].getD j 0), rfl, rfl, by rw [ht]; exact hP, hD⟩, hS.F ht⟩) hS.2.2 dt_Acts_16
def cl_Sums (τ : ClassId × ClassId × ClassId × ClassId × ClassId) (u : Nat → Nat) : va_W := [((u 0), .inr (4, [.ref (u 1), .ref (u 2), .ref (u 3), .ref (u 4), .ref (u 5), .ref (u 6)])), ((u 1), ct_Z τ 8)] ++ (ct_M τ (u 2) 8 8 ++ ([((u 3), ct_I τ 8), ((u 4), ct_Z τ 10), ((u 5), ct_Z τ 10), ((u 6), ct_I τ 10)]))
set_option maxHeartbeats 4000000 in
set_option maxRecDepth 100000 in
theorem c_Sums (l : Launch) (D : va_G) (τ : ClassId × ClassId × ClassId × ClassId × ClassId) (h0 sz : Nat) : Met l ⟨RX4, "<init>", "()V"⟩ (Cond.code ⟨RX4, "<init>", "()V"⟩ prog_6_method_1_code 1 none :: pm_TB) ({ frames := 1, cells := 14, slots := 118, locals := 12 }) (ct_Pc D τ h0 (.inr (4, [.null, .null, .null, .null, .null, .null])) sz (ct_AA)) (ct_Qc D (va_A [(h0, .inr (4, [.null, .null, .null, .null, .null, .null]))] sz) (fun u => u 0 = h0) (cl_Sums τ)) 14 118 (va_A [(h0, .inr (4, [.null, .null, .null, .null, .null, .null]))] sz) := by
  refine Met.ofW (cc := prog_6_method_1_code) (maxL := 1) (ret := none) (by decide) rfl ?_
  intro p e s m args below meth c s₁ B hml hv
  obtain ⟨rfl, hsz, hP, hK, hD0, hE⟩ := hv
  have hx := B.exec
  have hb := B.bytes
  have hr := B.returns
  have hts0 := atoms_spec (ws := (Cond.code ⟨RX4, "<init>", "()V"⟩ prog_6_method_1_code 1 none :: pm_TB)) B.pre
  have hts : ∀ w ∈ pm_TB, w.before _ s = true := fun w hw => hts0 w (List.mem_cons_of_mem _ hw)
  have hown : s.vm.findClass RX4 = some m.cls := findClass_of_methodNamed B.named
  have hlocks := B.notSynchronized
  have hin : meth.name = "<init>" := (name_of_methodNamed B.named B.method).1
  subst hsz
  have hD := hD0.self (sz := s.heap.size)
  generalize hAe : va_A [(h0, .inr (4, [.null, .null, .null, .null, .null, .null]))] s.heap.size = A at hD ⊢
  have hA : ∀ q : Nat, s.heap.size ≤ q → A q := fun q h => by rw [← hAe]; exact Or.inr h
  have hS : va_S A s.heap s.heap [] := va_S.rf
  have hP : va_P D vwCl [(h0, .inr (4, [.null, .null, .null, .null, .null, .null]))] s.heap := hP
  have hl := lv_entry ([.ref h0]) (n := 1) (Nat.le_of_ble_eq_true rfl)
  rw [lg_entry_eq]
  generalize (lg_sl ([.ref h0]) ++ List.replicate (1 - (lg_sl ([.ref h0])).length) Slot.unset).toArray = ls at hl ⊢
  have hl : lv_has ls 1 [(0, .ref h0)] := hl
  refine lv_aload_n hx hb dt_Sums_0 rfl (lv_at hl 0 rfl) ?_
  refine W.objInit hx hb hown (hts _ wo_Sums) (hts _ w_obi) (hts _ w_obc) rfl (by rw [hml]; exact hl.1) rfl dt_Sums_1 (Nat.le_of_ble_eq_true rfl) (Nat.le_of_ble_eq_true rfl) ?_
  refine W.eq (g2 := F0 m 4 ls []) rfl ?_
  refine lv_aload_n hx hb dt_Sums_4 rfl (lv_at hl 0 rfl) ?_
  refine lv_bipush (v := 8) hx hb dt_Sums_5 (by decide) ?_
  refine z_newZ (N := 8) hx hb hts hK hP hD hS hA (by decide) (by decide) (by decide) (Nat.le_of_ble_eq_true rfl) (Nat.le_of_ble_eq_true rfl) dt_Sums_7 (fun q1 H hP hD hS => ?_)
  have hP : va_P D vwCl ([(h0, .inr (4, [.null, .null, .null, .null, .null, .null])), (q1, ct_Z τ 8)]) H := hP
  have hD : va_D A ([(h0, .inr (4, [.null, .null, .null, .null, .null, .null])), (q1, ct_Z τ 8)]) := hD
  refine W.widen (k := 1) (n := 8) (by omega) (by omega) ?_
  refine z_putR (own := RX4) hx hb hts hown hin fr_Sums_9 hK hP hD hS 0 rfl (Nat.le_of_ble_eq_true rfl) dt_Sums_9 (fun H locs hP hD hS => ?_)
  have hP : va_P D vwCl ([(h0, .inr (4, [.ref q1, .null, .null, .null, .null, .null])), (q1, ct_Z τ 8)]) H := hP
  have hD : va_D A ([(h0, .inr (4, [.ref q1, .null, .null, .null, .null, .null])), (q1, ct_Z τ 8)]) := hD
  refine lv_aload_n hx hb dt_Sums_12 rfl (lv_at hl 0 rfl) ?_
  refine lv_bipush (v := 8) hx hb dt_Sums_13 (by decide) ?_
  refine lv_bipush (v := 8) hx hb dt_Sums_15 (by decide) ?_
  refine z_multi (N := 8) (K := 8) hx hb hts hown wm_Sums hE hK hP hD hS hA dt_Sums_17 (by decide) (by decide) (by decide) (by decide) (by decide) (by decide) (by decide) (Nat.le_of_ble_eq_true rfl) (Nat.le_of_ble_eq_true rfl) (fun q2 H locs hP hD hS => ?_)
  have hP : va_P D vwCl ([(h0, .inr (4, [.ref q1, .null, .null, .null, .null, .null])), (q1, ct_Z τ 8)] ++ (ct_M τ q2 8 8)) H := hP
  have hD : va_D A ([(h0, .inr (4, [.ref q1, .null, .null, .null, .null, .null])), (q1, ct_Z τ 8)] ++ (ct_M τ q2 8 8)) := hD
  refine W.widen (k := 10) (n := 80) (by omega) (by omega) ?_
  refine z_putR (own := RX4) hx hb hts hown hin fr_Sums_17 hK hP hD hS 0 rfl (Nat.le_of_ble_eq_true rfl) dt_Sums_21 (fun H locs hP hD hS => ?_)
  have hP : va_P D vwCl ([(h0, .inr (4, [.ref q1, .ref q2, .null, .null, .null, .null])), (q1, ct_Z τ 8)] ++ (ct_M τ q2 8 8)) H := hP
  have hD : va_D A ([(h0, .inr (4, [.ref q1, .ref q2, .null, .null, .null, .null])), (q1, ct_Z τ 8)] ++ (ct_M τ q2 8 8)) := hD
  refine lv_aload_n hx hb dt_Sums_24 rfl (lv_at hl 0 rfl) ?_
  refine lv_bipush (v := 8) hx hb dt_Sums_25 (by decide) ?_
  refine z_newI (N := 8) hx hb hts hK hP hD hS hA (by decide) (by decide) (by decide) (Nat.le_of_ble_eq_true rfl) (Nat.le_of_ble_eq_true rfl) dt_Sums_27 (fun q3 H hP hD hS => ?_)
  have hP : va_P D vwCl ([(h0, .inr (4, [.ref q1, .ref q2, .null, .null, .null, .null])), (q1, ct_Z τ 8)] ++ (ct_M τ q2 8 8 ++ ([(q3, ct_I τ 8)]))) H := hP
  have hD : va_D A ([(h0, .inr (4, [.ref q1, .ref q2, .null, .null, .null, .null])), (q1, ct_Z τ 8)] ++ (ct_M τ q2 8 8 ++ ([(q3, ct_I τ 8)]))) := hD
  refine W.widen (k := 11) (n := 88) (by omega) (by omega) ?_
  refine z_putR (own := RX4) hx hb hts hown hin fr_Sums_20 hK hP hD hS 0 rfl (Nat.le_of_ble_eq_true rfl) dt_Sums_29 (fun H locs hP hD hS => ?_)
  have hP : va_P D vwCl ([(h0, .inr (4, [.ref q1, .ref q2, .ref q3, .null, .null, .null])), (q1, ct_Z τ 8)] ++ (ct_M τ q2 8 8 ++ ([(q3, ct_I τ 8)]))) H := hP
  have hD : va_D A ([(h0, .inr (4, [.ref q1, .ref q2, .ref q3, .null, .null, .null])), (q1, ct_Z τ 8)] ++ (ct_M τ q2 8 8 ++ ([(q3, ct_I τ 8)]))) := hD
  refine lv_aload_n hx hb dt_Sums_32 rfl (lv_at hl 0 rfl) ?_
  refine lv_bipush (v := 10) hx hb dt_Sums_33 (by decide) ?_
  refine z_newZ (N := 10) hx hb hts hK hP hD hS hA (by decide) (by decide) (by decide) (Nat.le_of_ble_eq_true rfl) (Nat.le_of_ble_eq_true rfl) dt_Sums_35 (fun q4 H hP hD hS => ?_)
  have hP : va_P D vwCl ([(h0, .inr (4, [.ref q1, .ref q2, .ref q3, .null, .null, .null])), (q1, ct_Z τ 8)] ++ (ct_M τ q2 8 8 ++ ([(q3, ct_I τ 8), (q4, ct_Z τ 10)]))) H := hP
  have hD : va_D A ([(h0, .inr (4, [.ref q1, .ref q2, .ref q3, .null, .null, .null])), (q1, ct_Z τ 8)] ++ (ct_M τ q2 8 8 ++ ([(q3, ct_I τ 8), (q4, ct_Z τ 10)]))) := hD
  refine W.widen (k := 12) (n := 98) (by omega) (by omega) ?_
  refine z_putR (own := RX4) hx hb hts hown hin fr_Sums_24 hK hP hD hS 0 rfl (Nat.le_of_ble_eq_true rfl) dt_Sums_37 (fun H locs hP hD hS => ?_)
  have hP : va_P D vwCl ([(h0, .inr (4, [.ref q1, .ref q2, .ref q3, .ref q4, .null, .null])), (q1, ct_Z τ 8)] ++ (ct_M τ q2 8 8 ++ ([(q3, ct_I τ 8), (q4, ct_Z τ 10)]))) H := hP
  have hD : va_D A ([(h0, .inr (4, [.ref q1, .ref q2, .ref q3, .ref q4, .null, .null])), (q1, ct_Z τ 8)] ++ (ct_M τ q2 8 8 ++ ([(q3, ct_I τ 8), (q4, ct_Z τ 10)]))) := hD
  refine lv_aload_n hx hb dt_Sums_40 rfl (lv_at hl 0 rfl) ?_
  refine lv_bipush (v := 10) hx hb dt_Sums_41 (by decide) ?_
  refine z_newZ (N := 10) hx hb hts hK hP hD hS hA (by decide) (by decide) (by decide) (Nat.le_of_ble_eq_true rfl) (Nat.le_of_ble_eq_true rfl) dt_Sums_43 (fun q5 H hP hD hS => ?_)
  have hP : va_P D vwCl ([(h0, .inr (4, [.ref q1, .ref q2, .ref q3, .ref q4, .null, .null])), (q1, ct_Z τ 8)] ++ (ct_M τ q2 8 8 ++ ([(q3, ct_I τ 8), (q4, ct_Z τ 10), (q5, ct_Z τ 10)]))) H := hP
  have hD : va_D A ([(h0, .inr (4, [.ref q1, .ref q2, .ref q3, .ref q4, .null, .null])), (q1, ct_Z τ 8)] ++ (ct_M τ q2 8 8 ++ ([(q3, ct_I τ 8), (q4, ct_Z τ 10), (q5, ct_Z τ 10)]))) := hD
  refine W.widen (k := 13) (n := 108) (by omega) (by omega) ?_
  refine z_putR (own := RX4) hx hb hts hown hin fr_Sums_27 hK hP hD hS 0 rfl (Nat.le_of_ble_eq_true rfl) dt_Sums_45 (fun H locs hP hD hS => ?_)
  have hP : va_P D vwCl ([(h0, .inr (4, [.ref q1, .ref q2, .ref q3, .ref q4, .ref q5, .null])), (q1, ct_Z τ 8)] ++ (ct_M τ q2 8 8 ++ ([(q3, ct_I τ 8), (q4, ct_Z τ 10), (q5, ct_Z τ 10)]))) H := hP
  have hD : va_D A ([(h0, .inr (4, [.ref q1, .ref q2, .ref q3, .ref q4, .ref q5, .null])), (q1, ct_Z τ 8)] ++ (ct_M τ q2 8 8 ++ ([(q3, ct_I τ 8), (q4, ct_Z τ 10), (q5, ct_Z τ 10)]))) := hD
  refine lv_aload_n hx hb dt_Sums_48 rfl (lv_at hl 0 rfl) ?_
  refine lv_bipush (v := 10) hx hb dt_Sums_49 (by decide) ?_
  refine z_newI (N := 10) hx hb hts hK hP hD hS hA (by decide) (by decide) (by decide) (Nat.le_of_ble_eq_true rfl) (Nat.le_of_ble_eq_true rfl) dt_Sums_51 (fun q6 H hP hD hS => ?_)
  have hP : va_P D vwCl ([(h0, .inr (4, [.ref q1, .ref q2, .ref q3, .ref q4, .ref q5, .null])), (q1, ct_Z τ 8)] ++ (ct_M τ q2 8 8 ++ ([(q3, ct_I τ 8), (q4, ct_Z τ 10), (q5, ct_Z τ 10), (q6, ct_I τ 10)]))) H := hP
  have hD : va_D A ([(h0, .inr (4, [.ref q1, .ref q2, .ref q3, .ref q4, .ref q5, .null])), (q1, ct_Z τ 8)] ++ (ct_M τ q2 8 8 ++ ([(q3, ct_I τ 8), (q4, ct_Z τ 10), (q5, ct_Z τ 10), (q6, ct_I τ 10)]))) := hD
  refine W.widen (k := 14) (n := 118) (by omega) (by omega) ?_
  refine z_putR (own := RX4) hx hb hts hown hin fr_Sums_30 hK hP hD hS 0 rfl (Nat.le_of_ble_eq_true rfl) dt_Sums_53 (fun H locs hP hD hS => ?_)
  have hP : va_P D vwCl ([(h0, .inr (4, [.ref q1, .ref q2, .ref q3, .ref q4, .ref q5, .ref q6])), (q1, ct_Z τ 8)] ++ (ct_M τ q2 8 8 ++ ([(q3, ct_I τ 8), (q4, ct_Z τ 10), (q5, ct_Z τ 10), (q6, ct_I τ 10)]))) H := hP
  have hD : va_D A ([(h0, .inr (4, [.ref q1, .ref q2, .ref q3, .ref q4, .ref q5, .ref q6])), (q1, ct_Z τ 8)] ++ (ct_M τ q2 8 8 ++ ([(q3, ct_I τ 8), (q4, ct_Z τ 10), (q5, ct_Z τ 10), (q6, ct_I τ 10)]))) := hD
  exact W.vret hx hb hr (fun t ht _ => ⟨⟨(fun j => [h0, q1, q2, q3, q4, q5, q6].getD j 0), rfl, rfl, by rw [ht]; exact hP, hD⟩, hS.F ht⟩) hS.2.2 dt_Sums_56
