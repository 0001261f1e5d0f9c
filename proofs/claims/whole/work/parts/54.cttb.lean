/-! THE CLASS'S CONSTRUCTOR -/
theorem wc_Acts : Cond.code ⟨RX0, "<init>", "()V"⟩ prog_2_method_1_code 1 none ∈ pm_TB := pm_TB_at 178 (by decide +kernel) (by decide +kernel)
theorem wn_Acts : Cond.initialized RX0 ∈ pm_TB := pm_TB_at 51 (by decide +kernel) (by decide +kernel)
theorem ws_Acts : Cond.instanceMethod ⟨RX0, "<init>", "()V"⟩ ∈ pm_TB := pm_TB_at 177 (by decide +kernel) (by decide +kernel)
theorem wt_Acts : Cond.instantiable RX0 3 ∈ pm_TB := pm_TB_at 175 (by decide +kernel) (by decide +kernel)
theorem wc_Board : Cond.code ⟨RX1, "<init>", "()V"⟩ prog_3_method_1_code 1 none ∈ pm_TB := pm_TB_at 130 (by decide +kernel) (by decide +kernel)
theorem wn_Board : Cond.initialized RX1 ∈ pm_TB := pm_TB_at 50 (by decide +kernel) (by decide +kernel)
theorem ws_Board : Cond.instanceMethod ⟨RX1, "<init>", "()V"⟩ ∈ pm_TB := pm_TB_at 129 (by decide +kernel) (by decide +kernel)
theorem wt_Board : Cond.instantiable RX1 10 ∈ pm_TB := pm_TB_at 127 (by decide +kernel) (by decide +kernel)
theorem wc_Group : Cond.code ⟨RX2, "<init>", "()V"⟩ prog_4_method_1_code 1 none ∈ pm_TB := pm_TB_at 68 (by decide +kernel) (by decide +kernel)
theorem wn_Group : Cond.initialized RX2 ∈ pm_TB := pm_TB_at 47 (by decide +kernel) (by decide +kernel)
theorem ws_Group : Cond.instanceMethod ⟨RX2, "<init>", "()V"⟩ ∈ pm_TB := pm_TB_at 67 (by decide +kernel) (by decide +kernel)
theorem wt_Group : Cond.instantiable RX2 6 ∈ pm_TB := pm_TB_at 65 (by decide +kernel) (by decide +kernel)
theorem wc_Sheet : Cond.code ⟨RX3, "<init>", "()V"⟩ prog_5_method_1_code 1 none ∈ pm_TB := pm_TB_at 251 (by decide +kernel) (by decide +kernel)
theorem wn_Sheet : Cond.initialized RX3 ∈ pm_TB := pm_TB_at 54 (by decide +kernel) (by decide +kernel)
theorem ws_Sheet : Cond.instanceMethod ⟨RX3, "<init>", "()V"⟩ ∈ pm_TB := pm_TB_at 250 (by decide +kernel) (by decide +kernel)
theorem wt_Sheet : Cond.instantiable RX3 4 ∈ pm_TB := pm_TB_at 248 (by decide +kernel) (by decide +kernel)
theorem wc_Sums : Cond.code ⟨RX4, "<init>", "()V"⟩ prog_6_method_1_code 1 none ∈ pm_TB := pm_TB_at 199 (by decide +kernel) (by decide +kernel)
theorem wn_Sums : Cond.initialized RX4 ∈ pm_TB := pm_TB_at 52 (by decide +kernel) (by decide +kernel)
theorem ws_Sums : Cond.instanceMethod ⟨RX4, "<init>", "()V"⟩ ∈ pm_TB := pm_TB_at 198 (by decide +kernel) (by decide +kernel)
theorem wt_Sums : Cond.instantiable RX4 6 ∈ pm_TB := pm_TB_at 196 (by decide +kernel) (by decide +kernel)
theorem wc_Walk : Cond.code ⟨RX5, "<init>", "()V"⟩ prog_7_method_1_code 1 none ∈ pm_TB := pm_TB_at 224 (by decide +kernel) (by decide +kernel)
theorem wn_Walk : Cond.initialized RX5 ∈ pm_TB := pm_TB_at 53 (by decide +kernel) (by decide +kernel)
theorem ws_Walk : Cond.instanceMethod ⟨RX5, "<init>", "()V"⟩ ∈ pm_TB := pm_TB_at 223 (by decide +kernel) (by decide +kernel)
theorem wt_Walk : Cond.instantiable RX5 6 ∈ pm_TB := pm_TB_at 221 (by decide +kernel) (by decide +kernel)
theorem wc_Tb : Cond.code ⟨RX6, "<init>", "()V"⟩ prog_1_method_1_code 2 none ∈ pm_TB := pm_TB_at 60 (by decide +kernel) (by decide +kernel)
theorem wn_Tb : Cond.initialized RX6 ∈ pm_TB := pm_TB_at 46 (by decide +kernel) (by decide +kernel)
theorem ws_Tb : Cond.instanceMethod ⟨RX6, "<init>", "()V"⟩ ∈ pm_TB := pm_TB_at 59 (by decide +kernel) (by decide +kernel)
theorem wt_Tb : Cond.instantiable RX6 7 ∈ pm_TB := pm_TB_at 57 (by decide +kernel) (by decide +kernel)
theorem wc_Model : Cond.code ⟨RX7, "<init>", "()V"⟩ prog_9_method_1_code 1 none ∈ pm_TB := pm_TB_at 660 (by decide +kernel) (by decide +kernel)
theorem wn_Model : Cond.initialized RX7 ∈ pm_TB := pm_TB_at 55 (by decide +kernel) (by decide +kernel)
theorem ws_Model : Cond.instanceMethod ⟨RX7, "<init>", "()V"⟩ ∈ pm_TB := pm_TB_at 659 (by decide +kernel) (by decide +kernel)
theorem wt_Model : Cond.instantiable RX7 27 ∈ pm_TB := pm_TB_at 657 (by decide +kernel) (by decide +kernel)
theorem wl_Group : Cond.methodLink RX6 9 ⟨RX2, "<init>", "()V"⟩ ∈ pm_TB := pm_TB_at 66 (by decide +kernel) (by decide +kernel)
theorem wk_Group : Cond.classLink RX6 7 RX2 ∈ pm_TB := pm_TB_at 64 (by decide +kernel) (by decide +kernel)
theorem wk_Board : Cond.classLink RX6 16 RX1 ∈ pm_TB := pm_TB_at 126 (by decide +kernel) (by decide +kernel)
theorem wk_Walk : Cond.classLink RX6 23 RX5 ∈ pm_TB := pm_TB_at 172 (by decide +kernel) (by decide +kernel)
theorem wk_Acts : Cond.classLink RX6 29 RX0 ∈ pm_TB := pm_TB_at 174 (by decide +kernel) (by decide +kernel)
theorem wk_Sheet : Cond.classLink RX6 36 RX3 ∈ pm_TB := pm_TB_at 193 (by decide +kernel) (by decide +kernel)
theorem wk_Sums : Cond.classLink RX6 42 RX4 ∈ pm_TB := pm_TB_at 195 (by decide +kernel) (by decide +kernel)
/-- what the class's constructor is given -/
def ct_ET (h0 sz : Nat) (U : State) : Prop := h0 + 1 = sz ∧ (∃ bs a1 : Nat, bs ≤ h0 ∧ va_Z RX2 "UNITS" "[I" (.ref a1) (fun q => bs ≤ q) U U.heap) ∧ va_Nw (.methodLinkNest RX6 304 ⟨RX4, "sumFrom", "(IJLTurnBoards$Sums;[LTurnBoards$Walk;ILTurnBoards$Group;)J"⟩ "TurnBoards") U ∧ va_AO RX5 U ∧ va_AO RX3 U ∧ ct_AA U ∧ va_Nw (.methodLinkNest RX6 18 ⟨RX1, "<init>", "()V"⟩ "TurnBoards") U ∧ va_Nw (.methodLinkNest RX6 31 ⟨RX0, "<init>", "()V"⟩ "TurnBoards") U ∧ va_Nw (.methodLinkNest RX6 44 ⟨RX4, "<init>", "()V"⟩ "TurnBoards") U ∧ va_Nw (.methodLinkNest RX6 49 ⟨RX5, "<init>", "()V"⟩ "TurnBoards") U ∧ va_Nw (.methodLinkNest RX6 50 ⟨RX3, "<init>", "()V"⟩ "TurnBoards") U
theorem eb_G {h0 sz : Nat} (U : State) (g : JFrame) (mk : MethodId) (a : Array Value) (h : ct_EG h0 sz U) : ct_EG h0 sz (U.calling g mk a) := by
  obtain ⟨h1, bs, a1, h2, h3, h4⟩ := h
  exact ⟨h1, bs, a1, h2, va_Z.moved (u := U) (U := U.calling g mk a) (Vm.Alike.refl U.vm) h3, va_Nw.same rfl (U := U.calling g mk a) rfl h4⟩
theorem eb_A (U : State) (g : JFrame) (mk : MethodId) (a : Array Value) (h : ct_AA U) : ct_AA (U.calling g mk a) := ct_AA.moved (u := U) (U := U.calling g mk a) (Vm.Alike.refl U.vm) h
theorem eb_0 (U : State) (g : JFrame) (mk : MethodId) (a : Array Value) (h : (fun _ : State => True) U) : (fun _ : State => True) (U.calling g mk a) := h
theorem eb_T {h0 sz : Nat} (U : State) (g : JFrame) (mk : MethodId) (a : Array Value) (h : ct_ET h0 sz U) : ct_ET h0 sz (U.calling g mk a) := by
  obtain ⟨h1, ⟨bs, a1, h2, h3⟩, h4, h5, h6, h7, h8, h9, h10, h11, h12⟩ := h
  exact ⟨h1, ⟨bs, a1, h2, va_Z.moved (u := U) (U := U.calling g mk a) (Vm.Alike.refl U.vm) h3⟩, va_Nw.same rfl (U := U.calling g mk a) rfl h4, va_AO.moved (u := U) (U := U.calling g mk a) (Vm.Alike.refl U.vm) h5, va_AO.moved (u := U) (U := U.calling g mk a) (Vm.Alike.refl U.vm) h6, eb_A U g mk a h7, va_Nw.same rfl (U := U.calling g mk a) rfl h8, va_Nw.same rfl (U := U.calling g mk a) rfl h9, va_Nw.same rfl (U := U.calling g mk a) rfl h10, va_Nw.same rfl (U := U.calling g mk a) rfl h11, va_Nw.same rfl (U := U.calling g mk a) rfl h12⟩
section CTG
variable {p : Program} {l : Launch} {e : Env} {R : Room} {s : State} {m : MethodId} {args : Array Value} {below : List Frame} {meth : Method} {c : Code} {H : Heap} {locs : List Loc} {cells slots : Nat} {Q : State → Prop}
variable {cc : ByteArray} {pc : Nat} {ls : Array Slot} {rest : List Value} {D : va_G} {A : Nat → Prop} {ws : va_W} {τ : ClassId × ClassId × ClassId × ClassId × ClassId}
theorem z_getR {own : String} {idx ci k : Nat} (hexec : p.tables.exec = Jvm.exec) (hb : c.code = cc) (hts : ∀ w ∈ pm_TB, w.before args s = true) (hown : s.vm.findClass own = some m.cls) (hF : pm_FL own idx ci k) (hK : va_K D vwCl (ct_T τ) s) (hP : va_P D vwCl ws H) (q0 : Nat) {a : Nat} {v : Value} {fs : List Value} (he : ws[q0]? = some (a, .inr (ci, fs))) (hv : fs[k]? = some v) (hdg : decode cc pc = .ok (.getfield idx, 3))
    (kk : W p l e R s m args below meth c H locs cells slots Q (F0 m (pc + 3) ls (v :: rest))) : W p l e R s m args below meth c H locs cells slots Q (F0 m pc ls (.ref a :: rest)) := by
  obtain ⟨Cn, T, N, f1, f2, f3, f4⟩ := hF
  exact va_get (D := D) (cl := vwCl) (ci := ci) (T := T) (C := Cn) (N := N) hexec hb hts f3 hown hK hP q0 he f1 k f2 (hts _ f4) (fun _ h9 => h9) hv hdg kk
end CTG
abbrev ct_U : Type := ((Nat → Nat) × pm_I) × (Nat → Nat) × (Nat → Nat) × (Nat → Nat) × (Nat → Nat → Nat) × (Nat → Nat → Nat) × Nat × Nat
def cl_Tb (τ : ClassId × ClassId × ClassId × ClassId × ClassId) (h0 : Nat) (u : ct_U) : va_W := (h0, .inr (6, [.ref (u.1.1 0), .ref (u.2.1 0), .ref u.2.2.2.2.2.2.1, .int 0, .ref (u.2.2.1 0), .ref u.2.2.2.2.2.2.2, .ref (u.2.2.2.1 0)])) :: ((u.2.2.2.2.2.2.1, ct_V τ 8 (va_up (va_up (va_up (va_up (va_up (va_up (va_up (va_up (fun _ => none) 0 (some ((u.2.2.2.2.1 0) 0))) 1 (some ((u.2.2.2.2.1 1) 0))) 2 (some ((u.2.2.2.2.1 2) 0))) 3 (some ((u.2.2.2.2.1 3) 0))) 4 (some ((u.2.2.2.2.1 4) 0))) 5 (some ((u.2.2.2.2.1 5) 0))) 6 (some ((u.2.2.2.2.1 6) 0))) 7 (some ((u.2.2.2.2.1 7) 0)))) :: ((u.2.2.2.2.2.2.2, ct_S τ 4 (va_up (va_up (va_up (va_up (fun _ => none) 0 (some ((u.2.2.2.2.2.1 0) 0))) 1 (some ((u.2.2.2.2.2.1 1) 0))) 2 (some ((u.2.2.2.2.2.1 2) 0))) 3 (some ((u.2.2.2.2.2.1 3) 0)))) :: (cl_Sheet τ (u.2.2.2.2.2.1 3) ++ (cl_Sheet τ (u.2.2.2.2.2.1 2) ++ (cl_Sheet τ (u.2.2.2.2.2.1 1) ++ (cl_Sheet τ (u.2.2.2.2.2.1 0) ++ (cl_Walk τ (u.2.2.2.2.1 7) ++ (cl_Walk τ (u.2.2.2.2.1 6) ++ (cl_Walk τ (u.2.2.2.2.1 5) ++ (cl_Walk τ (u.2.2.2.2.1 4) ++ (cl_Walk τ (u.2.2.2.2.1 3) ++ (cl_Walk τ (u.2.2.2.2.1 2) ++ (cl_Walk τ (u.2.2.2.2.1 1) ++ (cl_Walk τ (u.2.2.2.2.1 0) ++ (cl_Sums τ u.2.2.2.1 ++ (cl_Acts τ u.2.2.1 ++ (cl_Board τ u.2.1 ++ (cl_Group τ u.1))))))))))))))))))
set_option maxHeartbeats 16000000 in
set_option maxRecDepth 100000 in
theorem c_Tb (l : Launch) (D : va_G) (τ : ClassId × ClassId × ClassId × ClassId × ClassId) (h0 sz : Nat) : Met l ⟨RX6, "<init>", "()V"⟩ (Cond.code ⟨RX6, "<init>", "()V"⟩ prog_1_method_1_code 2 none :: pm_TB) ({ frames := 6, cells := 73, slots := 869, locals := 300 }) (ct_Pc D τ h0 (.inr (6, [.null, .null, .null, .int 0, .null, .null, .null])) sz (ct_ET h0 sz)) (ct_Qc D (va_A [(h0, .inr (6, [.null, .null, .null, .int 0, .null, .null, .null]))] sz) (fun u : ct_U => cp_Group (u.1.1 0) u.1) (cl_Tb τ h0)) 73 869 (va_A [(h0, .inr (6, [.null, .null, .null, .int 0, .null, .null, .null]))] sz) := by
  refine Met.ofW (cc := prog_1_method_1_code) (maxL := 2) (ret := none) (by decide) rfl ?_
  intro p e s m args below meth c s₁ B hml hv
  obtain ⟨rfl, hsz, hP, hK, hD0, hE⟩ := hv
  have hx := B.exec
  have hb := B.bytes
  have hr := B.returns
  have hts0 := atoms_spec (ws := (Cond.code ⟨RX6, "<init>", "()V"⟩ prog_1_method_1_code 2 none :: pm_TB)) B.pre
  have hts : ∀ w ∈ pm_TB, w.before _ s = true := fun w hw => hts0 w (List.mem_cons_of_mem _ hw)
  have hown : s.vm.findClass RX6 = some m.cls := findClass_of_methodNamed B.named
  have hlocks := B.notSynchronized
  have hin : meth.name = "<init>" := (name_of_methodNamed B.named B.method).1
  subst hsz
  have hD := hD0.self (sz := s.heap.size)
  generalize hAe : va_A [(h0, .inr (6, [.null, .null, .null, .int 0, .null, .null, .null]))] s.heap.size = A at hD ⊢
  have hA : ∀ q : Nat, s.heap.size ≤ q → A q := fun q h => by rw [← hAe]; exact Or.inr h
  have hS : va_S A s.heap s.heap [] := va_S.rf
  have hP : va_P D vwCl [(h0, .inr (6, [.null, .null, .null, .int 0, .null, .null, .null]))] s.heap := hP
  have hl := lv_entry ([.ref h0]) (n := 2) (Nat.le_of_ble_eq_true rfl)
  rw [lg_entry_eq]
  generalize (lg_sl ([.ref h0]) ++ List.replicate (2 - (lg_sl ([.ref h0])).length) Slot.unset).toArray = ls at hl ⊢
  have hl : lv_has ls 2 [(0, .ref h0)] := hl
  refine lv_aload_n hx hb dt_Tb_0 rfl (lv_at hl 0 rfl) ?_
  refine W.objInit hx hb hown (hts _ wo_Tb) (hts _ w_obi) (hts _ w_obc) rfl (by rw [hml]; exact hl.1) rfl dt_Tb_1 (Nat.le_of_ble_eq_true rfl) (Nat.le_of_ble_eq_true rfl) ?_
  refine W.eq (g2 := F0 m 4 ls []) rfl ?_
  obtain ⟨hsz1, ⟨bs, a1, hbs, hZ⟩, hNw, hAW, hAS, hAA, hnBoard, hnActs, hnSums, hnWalk, hnSheet⟩ := hE
  obtain rfl : A = (fun q => h0 ≤ q) := by
    rw [← hAe]
    funext q
    apply propext
    constructor
    · intro h
      rcases h with ⟨k, e, h⟩ | h
      · cases k with
        | zero => cases h; exact Nat.le_refl _
        | succ k => cases h
      · omega
    · intro h
      have h : h0 ≤ q := h
      by_cases z : q = h0
      · subst z; exact Or.inl ⟨0, _, rfl⟩
      · exact Or.inr (by omega)
  refine lv_aload_n hx hb dt_Tb_4 rfl (lv_at hl 0 rfl) ?_
  refine z_new (own := RX6) (C := RX2) (T := TX2) (N := 6) (ci := 2) (fs := [.int 0, .null, .null, .null, .null, .null]) hx hb hts wi_2 tyX2 tyX2_ok hown wk_Group wt_Group wn_Group hK hP hD hS hA rfl (by decide) (Nat.le_of_ble_eq_true rfl) (Nat.le_of_ble_eq_true rfl) dt_Tb_5 (fun p1 H hq1 hq2 hP hD hS => ?_)
  refine W.widen (k := 1) (n := 6) (by omega) (by omega) ?_
  refine lv_dup hx hb dt_Tb_8 rfl ?_
  refine z_callI (q := p1) hx hb hml hl.1 hown hts (c_Group l D τ p1 H.size) wc_Group rfl rfl wl_Group wn_Group ws_Group rfl (by decide +kernel) ⟨Nat.le_of_ble_eq_true rfl, Nat.le_of_ble_eq_true rfl⟩ eb_G (fun U hU hW => ⟨by omega, bs, a1, by omega, by rw [hU]; exact (hZ.kept (fun a ha hq => hS.2.1 a ha (fun z => hq (Nat.le_trans hbs z)))).moved hW.alike, hNw.warmM hW⟩) hK hP hD hS hA (Nat.le_of_ble_eq_true rfl) dt_Tb_9 ⟨Nat.le_of_ble_eq_true rfl, Nat.le_of_ble_eq_true rfl⟩ (fun uG H locs hpo hP hD hS => ?_)
  refine W.widen (k := 6) (n := 158) (by omega) (by omega) ?_
  have hpG := hpo
  rw [show p1 = uG.1 0 from hpo.1.symm]
  obtain ⟨hP, hD⟩ := z_prm (ws' := (h0, .inr (6, [.null, .null, .null, .int 0, .null, .null, .null])) :: (cl_Group τ uG)) (List.Perm.cons _ List.perm_append_comm) hP hD
  refine z_putR (own := RX6) hx hb hts hown hin fr_Tb_10 hK hP hD hS 0 rfl (Nat.le_of_ble_eq_true rfl) dt_Tb_12 (fun H locs hP hD hS => ?_)
  have hP : va_P D vwCl ((h0, .inr (6, [.ref (uG.1 0), .null, .null, .int 0, .null, .null, .null])) :: (cl_Group τ uG)) H := hP
  have hD : va_D (fun q => h0 ≤ q) ((h0, .inr (6, [.ref (uG.1 0), .null, .null, .int 0, .null, .null, .null])) :: (cl_Group τ uG)) := hD
  refine lv_aload_n hx hb dt_Tb_15 rfl (lv_at hl 0 rfl) ?_
  refine z_new (own := RX6) (C := RX1) (T := TX1) (N := 10) (ci := 1) (fs := [.int 0, .int 0, .int 0, .null, .null, .null, .null, .null, .null, .null]) hx hb hts wi_1 tyX1 tyX1_ok hown wk_Board wt_Board wn_Board hK hP hD hS hA rfl (by decide) (Nat.le_of_ble_eq_true rfl) (Nat.le_of_ble_eq_true rfl) dt_Tb_16 (fun p2 H hq1 hq2 hP hD hS => ?_)
  refine W.widen (k := 7) (n := 168) (by omega) (by omega) ?_
  refine lv_dup hx hb dt_Tb_19 rfl ?_
  refine z_callN (q := p2) hx hb hml hl.1 hown hts (c_Board l D τ p2 H.size) wc_Board rfl rfl hnBoard wn_Board ws_Board rfl (by decide +kernel) ⟨Nat.le_of_ble_eq_true rfl, Nat.le_of_ble_eq_true rfl⟩ eb_0 (fun _ _ _ => trivial) hK hP hD hS hA (Nat.le_of_ble_eq_true rfl) dt_Tb_20 ⟨Nat.le_of_ble_eq_true rfl, Nat.le_of_ble_eq_true rfl⟩ (fun uB H locs hpo hP hD hS => ?_)
  refine W.widen (k := 14) (n := 226) (by omega) (by omega) ?_
  rw [show p2 = uB 0 from hpo.symm]
  obtain ⟨hP, hD⟩ := z_prm (ws' := (h0, .inr (6, [.ref (uG.1 0), .null, .null, .int 0, .null, .null, .null])) :: (cl_Board τ uB ++ (cl_Group τ uG))) (List.Perm.cons _ List.perm_append_comm) hP hD
  refine z_putR (own := RX6) hx hb hts hown hin fr_Tb_19 hK hP hD hS 0 rfl (Nat.le_of_ble_eq_true rfl) dt_Tb_23 (fun H locs hP hD hS => ?_)
  have hP : va_P D vwCl ((h0, .inr (6, [.ref (uG.1 0), .ref (uB 0), .null, .int 0, .null, .null, .null])) :: (cl_Board τ uB ++ (cl_Group τ uG))) H := hP
  have hD : va_D (fun q => h0 ≤ q) ((h0, .inr (6, [.ref (uG.1 0), .ref (uB 0), .null, .int 0, .null, .null, .null])) :: (cl_Board τ uB ++ (cl_Group τ uG))) := hD
  refine lv_aload_n hx hb dt_Tb_26 rfl (lv_at hl 0 rfl) ?_
  refine lv_bipush (v := 8) hx hb dt_Tb_27 (by decide) ?_
  refine z_newV (C := RX5) (t0 := 3) hx hb hts hown wk_Walk hAW hK rfl hP hD hS hA (n := 8) (N := 8) (by decide) (by decide) (by decide) (Nat.le_of_ble_eq_true rfl) (Nat.le_of_ble_eq_true rfl) dt_Tb_29 (fun qW H hP hD hS => ?_)
  refine W.widen (k := 15) (n := 234) (by omega) (by omega) ?_
  obtain ⟨hP, hD⟩ := z_prm (ws' := (h0, .inr (6, [.ref (uG.1 0), .ref (uB 0), .null, .int 0, .null, .null, .null])) :: ((qW, ct_V τ 8 (fun _ => none)) :: (cl_Board τ uB ++ (cl_Group τ uG)))) (List.Perm.cons _ List.perm_append_comm) hP hD
  refine z_putR (own := RX6) hx hb hts hown hin fr_Tb_25 hK hP hD hS 0 rfl (Nat.le_of_ble_eq_true rfl) dt_Tb_32 (fun H locs hP hD hS => ?_)
  have hP : va_P D vwCl ((h0, .inr (6, [.ref (uG.1 0), .ref (uB 0), .ref qW, .int 0, .null, .null, .null])) :: ((qW, ct_V τ 8 (fun _ => none)) :: (cl_Board τ uB ++ (cl_Group τ uG)))) H := hP
  have hD : va_D (fun q => h0 ≤ q) ((h0, .inr (6, [.ref (uG.1 0), .ref (uB 0), .ref qW, .int 0, .null, .null, .null])) :: ((qW, ct_V τ 8 (fun _ => none)) :: (cl_Board τ uB ++ (cl_Group τ uG)))) := hD
  refine lv_aload_n hx hb dt_Tb_35 rfl (lv_at hl 0 rfl) ?_
  refine z_new (own := RX6) (C := RX0) (T := TX0) (N := 3) (ci := 0) (fs := [.int 0, .int 0, .null]) hx hb hts wi_0 tyX0 tyX0_ok hown wk_Acts wt_Acts wn_Acts hK hP hD hS hA rfl (by decide) (Nat.le_of_ble_eq_true rfl) (Nat.le_of_ble_eq_true rfl) dt_Tb_36 (fun p3 H hq1 hq2 hP hD hS => ?_)
  refine W.widen (k := 16) (n := 237) (by omega) (by omega) ?_
  refine lv_dup hx hb dt_Tb_39 rfl ?_
  refine z_callN (q := p3) hx hb hml hl.1 hown hts (c_Acts l D τ p3 H.size) wc_Acts rfl rfl hnActs wn_Acts ws_Acts rfl (by decide +kernel) ⟨Nat.le_of_ble_eq_true rfl, Nat.le_of_ble_eq_true rfl⟩ eb_A (fun U _ hW => hAA.moved hW.alike) hK hP hD hS hA (Nat.le_of_ble_eq_true rfl) dt_Tb_40 ⟨Nat.le_of_ble_eq_true rfl, Nat.le_of_ble_eq_true rfl⟩ (fun uA H locs hpo hP hD hS => ?_)
  refine W.widen (k := 25) (n := 325) (by omega) (by omega) ?_
  rw [show p3 = uA 0 from hpo.symm]
  obtain ⟨hP, hD⟩ := z_prm (ws' := (h0, .inr (6, [.ref (uG.1 0), .ref (uB 0), .ref qW, .int 0, .null, .null, .null])) :: ((qW, ct_V τ 8 (fun _ => none)) :: (cl_Acts τ uA ++ (cl_Board τ uB ++ (cl_Group τ uG))))) (List.Perm.cons _ (List.Perm.cons _ List.perm_append_comm)) hP hD
  refine z_putR (own := RX6) hx hb hts hown hin fr_Tb_32 hK hP hD hS 0 rfl (Nat.le_of_ble_eq_true rfl) dt_Tb_43 (fun H locs hP hD hS => ?_)
  have hP : va_P D vwCl ((h0, .inr (6, [.ref (uG.1 0), .ref (uB 0), .ref qW, .int 0, .ref (uA 0), .null, .null])) :: ((qW, ct_V τ 8 (fun _ => none)) :: (cl_Acts τ uA ++ (cl_Board τ uB ++ (cl_Group τ uG))))) H := hP
  have hD : va_D (fun q => h0 ≤ q) ((h0, .inr (6, [.ref (uG.1 0), .ref (uB 0), .ref qW, .int 0, .ref (uA 0), .null, .null])) :: ((qW, ct_V τ 8 (fun _ => none)) :: (cl_Acts τ uA ++ (cl_Board τ uB ++ (cl_Group τ uG))))) := hD
  refine lv_aload_n hx hb dt_Tb_46 rfl (lv_at hl 0 rfl) ?_
  refine lv_iconst (v := 4) hx hb dt_Tb_47 (by decide) ?_
  refine z_newV (C := RX3) (t0 := 2) hx hb hts hown wk_Sheet hAS hK rfl hP hD hS hA (n := 4) (N := 4) (by decide) (by decide) (by decide) (Nat.le_of_ble_eq_true rfl) (Nat.le_of_ble_eq_true rfl) dt_Tb_48 (fun qS H hP hD hS => ?_)
  refine W.widen (k := 26) (n := 329) (by omega) (by omega) ?_
  obtain ⟨hP, hD⟩ := z_prm (ws' := (h0, .inr (6, [.ref (uG.1 0), .ref (uB 0), .ref qW, .int 0, .ref (uA 0), .null, .null])) :: ((qW, ct_V τ 8 (fun _ => none)) :: ((qS, ct_S τ 4 (fun _ => none)) :: (cl_Acts τ uA ++ (cl_Board τ uB ++ (cl_Group τ uG)))))) (List.Perm.cons _ (List.Perm.cons _ List.perm_append_comm)) hP hD
  refine z_putR (own := RX6) hx hb hts hown hin fr_Tb_38 hK hP hD hS 0 rfl (Nat.le_of_ble_eq_true rfl) dt_Tb_51 (fun H locs hP hD hS => ?_)
  have hP : va_P D vwCl ((h0, .inr (6, [.ref (uG.1 0), .ref (uB 0), .ref qW, .int 0, .ref (uA 0), .ref qS, .null])) :: ((qW, ct_V τ 8 (fun _ => none)) :: ((qS, ct_S τ 4 (fun _ => none)) :: (cl_Acts τ uA ++ (cl_Board τ uB ++ (cl_Group τ uG)))))) H := hP
  have hD : va_D (fun q => h0 ≤ q) ((h0, .inr (6, [.ref (uG.1 0), .ref (uB 0), .ref qW, .int 0, .ref (uA 0), .ref qS, .null])) :: ((qW, ct_V τ 8 (fun _ => none)) :: ((qS, ct_S τ 4 (fun _ => none)) :: (cl_Acts τ uA ++ (cl_Board τ uB ++ (cl_Group τ uG)))))) := hD
  refine lv_aload_n hx hb dt_Tb_54 rfl (lv_at hl 0 rfl) ?_
  refine z_new (own := RX6) (C := RX4) (T := TX4) (N := 6) (ci := 4) (fs := [.null, .null, .null, .null, .null, .null]) hx hb hts wi_4 tyX4 tyX4_ok hown wk_Sums wt_Sums wn_Sums hK hP hD hS hA rfl (by decide) (Nat.le_of_ble_eq_true rfl) (Nat.le_of_ble_eq_true rfl) dt_Tb_55 (fun p4 H hq1 hq2 hP hD hS => ?_)
  refine W.widen (k := 27) (n := 335) (by omega) (by omega) ?_
  refine lv_dup hx hb dt_Tb_58 rfl ?_
  refine z_callN (q := p4) hx hb hml hl.1 hown hts (c_Sums l D τ p4 H.size) wc_Sums rfl rfl hnSums wn_Sums ws_Sums rfl (by decide +kernel) ⟨Nat.le_of_ble_eq_true rfl, Nat.le_of_ble_eq_true rfl⟩ eb_A (fun U _ hW => hAA.moved hW.alike) hK hP hD hS hA (Nat.le_of_ble_eq_true rfl) dt_Tb_59 ⟨Nat.le_of_ble_eq_true rfl, Nat.le_of_ble_eq_true rfl⟩ (fun uS H locs hpo hP hD hS => ?_)
  refine W.widen (k := 41) (n := 453) (by omega) (by omega) ?_
  rw [show p4 = uS 0 from hpo.symm]
  obtain ⟨hP, hD⟩ := z_prm (ws' := (h0, .inr (6, [.ref (uG.1 0), .ref (uB 0), .ref qW, .int 0, .ref (uA 0), .ref qS, .null])) :: ((qW, ct_V τ 8 (fun _ => none)) :: ((qS, ct_S τ 4 (fun _ => none)) :: (cl_Sums τ uS ++ (cl_Acts τ uA ++ (cl_Board τ uB ++ (cl_Group τ uG))))))) (List.Perm.cons _ (List.Perm.cons _ (List.Perm.cons _ List.perm_append_comm))) hP hD
  refine z_putR (own := RX6) hx hb hts hown hin fr_Tb_45 hK hP hD hS 0 rfl (Nat.le_of_ble_eq_true rfl) dt_Tb_62 (fun H locs hP hD hS => ?_)
  have hP : va_P D vwCl ((h0, .inr (6, [.ref (uG.1 0), .ref (uB 0), .ref qW, .int 0, .ref (uA 0), .ref qS, .ref (uS 0)])) :: ((qW, ct_V τ 8 (fun _ => none)) :: ((qS, ct_S τ 4 (fun _ => none)) :: (cl_Sums τ uS ++ (cl_Acts τ uA ++ (cl_Board τ uB ++ (cl_Group τ uG))))))) H := hP
  have hD : va_D (fun q => h0 ≤ q) ((h0, .inr (6, [.ref (uG.1 0), .ref (uB 0), .ref qW, .int 0, .ref (uA 0), .ref qS, .ref (uS 0)])) :: ((qW, ct_V τ 8 (fun _ => none)) :: ((qS, ct_S τ 4 (fun _ => none)) :: (cl_Sums τ uS ++ (cl_Acts τ uA ++ (cl_Board τ uB ++ (cl_Group τ uG))))))) := hD
  refine lv_iconst (v := 0) hx hb dt_Tb_65 (by decide) ?_
  refine lv_istore_n (nL := 2) hx hb dt_Tb_66 rfl hl (by decide) rfl (fun ls hl => ?_)
  have hl : lv_has ls 2 [(1, .int 0), (0, .ref h0)] := hl
  refine lv_iload_n hx hb dt_Tb_67 rfl (lv_at hl 0 rfl) ?_
  refine lv_bipush (v := 8) hx hb dt_Tb_68 (by decide) ?_
  refine lv_icmp_ge (tgt := 92) hx hb dt_Tb_70 (by decide) (fun h => absurd h (by decide)) (fun _ => ?_)
  refine lv_aload_n hx hb dt_Tb_73 rfl (lv_at hl 1 rfl) ?_
  refine z_getR hx hb hts hown lf_T_25 hK hP 0 rfl rfl dt_Tb_74 ?_
  refine lv_iload_n hx hb dt_Tb_77 rfl (lv_at hl 0 rfl) ?_
  refine z_new (own := RX6) (C := RX5) (T := TX5) (N := 6) (ci := 5) (fs := [.int 0, .int 0, .int 0, .int 0, .null, .null]) hx hb hts wi_5 tyX5 tyX5_ok hown wk_Walk wt_Walk wn_Walk hK hP hD hS hA rfl (by decide) (Nat.le_of_ble_eq_true rfl) (Nat.le_of_ble_eq_true rfl) dt_Tb_78 (fun p5 H hq1 hq2 hP hD hS => ?_)
  refine W.widen (k := 42) (n := 459) (by omega) (by omega) ?_
  refine lv_dup hx hb dt_Tb_81 rfl ?_
  refine z_callN (q := p5) hx hb hml hl.1 hown hts (c_Walk l D τ p5 H.size) wc_Walk rfl rfl hnWalk wn_Walk ws_Walk rfl (by decide +kernel) ⟨Nat.le_of_ble_eq_true rfl, Nat.le_of_ble_eq_true rfl⟩ eb_0 (fun _ _ _ => trivial) hK hP hD hS hA (Nat.le_of_ble_eq_true rfl) dt_Tb_82 ⟨Nat.le_of_ble_eq_true rfl, Nat.le_of_ble_eq_true rfl⟩ (fun w0 H locs hpo hP hD hS => ?_)
  refine W.widen (k := 44) (n := 471) (by omega) (by omega) ?_
  rw [show p5 = w0 0 from hpo.symm]
  obtain ⟨hP, hD⟩ := z_prm (ws' := (h0, .inr (6, [.ref (uG.1 0), .ref (uB 0), .ref qW, .int 0, .ref (uA 0), .ref qS, .ref (uS 0)])) :: ((qW, ct_V τ 8 (fun _ => none)) :: ((qS, ct_S τ 4 (fun _ => none)) :: (cl_Walk τ w0 ++ (cl_Sums τ uS ++ (cl_Acts τ uA ++ (cl_Board τ uB ++ (cl_Group τ uG)))))))) (List.Perm.cons _ (List.Perm.cons _ (List.Perm.cons _ List.perm_append_comm))) hP hD
  refine va_astq (r := (RX5, TX5, 6)) hx hb hK hP hD hS 1 3 3 5 rfl rfl rfl rfl (i := 0) (by unfold vp_in; decide) dt_Tb_85 (fun H locs hP hD hS => ?_)
  have hP : va_P D vwCl ((h0, .inr (6, [.ref (uG.1 0), .ref (uB 0), .ref qW, .int 0, .ref (uA 0), .ref qS, .ref (uS 0)])) :: ((qW, ct_V τ 8 (va_up (fun _ => none) 0 (some (w0 0)))) :: ((qS, ct_S τ 4 (fun _ => none)) :: (cl_Walk τ w0 ++ (cl_Sums τ uS ++ (cl_Acts τ uA ++ (cl_Board τ uB ++ (cl_Group τ uG)))))))) H := hP
  have hD : va_D (fun q => h0 ≤ q) ((h0, .inr (6, [.ref (uG.1 0), .ref (uB 0), .ref qW, .int 0, .ref (uA 0), .ref qS, .ref (uS 0)])) :: ((qW, ct_V τ 8 (va_up (fun _ => none) 0 (some (w0 0)))) :: ((qS, ct_S τ 4 (fun _ => none)) :: (cl_Walk τ w0 ++ (cl_Sums τ uS ++ (cl_Acts τ uA ++ (cl_Board τ uB ++ (cl_Group τ uG)))))))) := hD
  refine lv_iinc (k := 0) (v := 1) hx hb dt_Tb_86 hl rfl (by decide) (by decide) rfl (fun ls hl => ?_)
  have hl : lv_has ls 2 [(1, .int 1), (0, .ref h0)] := hl
  refine lv_goto (tgt := 67) hx hb dt_Tb_89 (by decide) ?_
  refine lv_iload_n hx hb dt_Tb_67 rfl (lv_at hl 0 rfl) ?_
  refine lv_bipush (v := 8) hx hb dt_Tb_68 (by decide) ?_
  refine lv_icmp_ge (tgt := 92) hx hb dt_Tb_70 (by decide) (fun h => absurd h (by decide)) (fun _ => ?_)
  refine lv_aload_n hx hb dt_Tb_73 rfl (lv_at hl 1 rfl) ?_
  refine z_getR hx hb hts hown lf_T_25 hK hP 0 rfl rfl dt_Tb_74 ?_
  refine lv_iload_n hx hb dt_Tb_77 rfl (lv_at hl 0 rfl) ?_
  refine z_new (own := RX6) (C := RX5) (T := TX5) (N := 6) (ci := 5) (fs := [.int 0, .int 0, .int 0, .int 0, .null, .null]) hx hb hts wi_5 tyX5 tyX5_ok hown wk_Walk wt_Walk wn_Walk hK hP hD hS hA rfl (by decide) (Nat.le_of_ble_eq_true rfl) (Nat.le_of_ble_eq_true rfl) dt_Tb_78 (fun p6 H hq1 hq2 hP hD hS => ?_)
  refine W.widen (k := 45) (n := 477) (by omega) (by omega) ?_
  refine lv_dup hx hb dt_Tb_81 rfl ?_
  refine z_callN (q := p6) hx hb hml hl.1 hown hts (c_Walk l D τ p6 H.size) wc_Walk rfl rfl hnWalk wn_Walk ws_Walk rfl (by decide +kernel) ⟨Nat.le_of_ble_eq_true rfl, Nat.le_of_ble_eq_true rfl⟩ eb_0 (fun _ _ _ => trivial) hK hP hD hS hA (Nat.le_of_ble_eq_true rfl) dt_Tb_82 ⟨Nat.le_of_ble_eq_true rfl, Nat.le_of_ble_eq_true rfl⟩ (fun w1 H locs hpo hP hD hS => ?_)
  refine W.widen (k := 47) (n := 489) (by omega) (by omega) ?_
  rw [show p6 = w1 0 from hpo.symm]
  obtain ⟨hP, hD⟩ := z_prm (ws' := (h0, .inr (6, [.ref (uG.1 0), .ref (uB 0), .ref qW, .int 0, .ref (uA 0), .ref qS, .ref (uS 0)])) :: ((qW, ct_V τ 8 (va_up (fun _ => none) 0 (some (w0 0)))) :: ((qS, ct_S τ 4 (fun _ => none)) :: (cl_Walk τ w1 ++ (cl_Walk τ w0 ++ (cl_Sums τ uS ++ (cl_Acts τ uA ++ (cl_Board τ uB ++ (cl_Group τ uG))))))))) (List.Perm.cons _ (List.Perm.cons _ (List.Perm.cons _ List.perm_append_comm))) hP hD
  refine va_astq (r := (RX5, TX5, 6)) hx hb hK hP hD hS 1 3 3 5 rfl rfl rfl rfl (i := 1) (by unfold vp_in; decide) dt_Tb_85 (fun H locs hP hD hS => ?_)
  have hP : va_P D vwCl ((h0, .inr (6, [.ref (uG.1 0), .ref (uB 0), .ref qW, .int 0, .ref (uA 0), .ref qS, .ref (uS 0)])) :: ((qW, ct_V τ 8 (va_up (va_up (fun _ => none) 0 (some (w0 0))) 1 (some (w1 0)))) :: ((qS, ct_S τ 4 (fun _ => none)) :: (cl_Walk τ w1 ++ (cl_Walk τ w0 ++ (cl_Sums τ uS ++ (cl_Acts τ uA ++ (cl_Board τ uB ++ (cl_Group τ uG))))))))) H := hP
  have hD : va_D (fun q => h0 ≤ q) ((h0, .inr (6, [.ref (uG.1 0), .ref (uB 0), .ref qW, .int 0, .ref (uA 0), .ref qS, .ref (uS 0)])) :: ((qW, ct_V τ 8 (va_up (va_up (fun _ => none) 0 (some (w0 0))) 1 (some (w1 0)))) :: ((qS, ct_S τ 4 (fun _ => none)) :: (cl_Walk τ w1 ++ (cl_Walk τ w0 ++ (cl_Sums τ uS ++ (cl_Acts τ uA ++ (cl_Board τ uB ++ (cl_Group τ uG))))))))) := hD
  refine lv_iinc (k := 0) (v := 2) hx hb dt_Tb_86 hl rfl (by decide) (by decide) rfl (fun ls hl => ?_)
  have hl : lv_has ls 2 [(1, .int 2), (0, .ref h0)] := hl
  refine lv_goto (tgt := 67) hx hb dt_Tb_89 (by decide) ?_
  refine lv_iload_n hx hb dt_Tb_67 rfl (lv_at hl 0 rfl) ?_
  refine lv_bipush (v := 8) hx hb dt_Tb_68 (by decide) ?_
  refine lv_icmp_ge (tgt := 92) hx hb dt_Tb_70 (by decide) (fun h => absurd h (by decide)) (fun _ => ?_)
  refine lv_aload_n hx hb dt_Tb_73 rfl (lv_at hl 1 rfl) ?_
  refine z_getR hx hb hts hown lf_T_25 hK hP 0 rfl rfl dt_Tb_74 ?_
  refine lv_iload_n hx hb dt_Tb_77 rfl (lv_at hl 0 rfl) ?_
  refine z_new (own := RX6) (C := RX5) (T := TX5) (N := 6) (ci := 5) (fs := [.int 0, .int 0, .int 0, .int 0, .null, .null]) hx hb hts wi_5 tyX5 tyX5_ok hown wk_Walk wt_Walk wn_Walk hK hP hD hS hA rfl (by decide) (Nat.le_of_ble_eq_true rfl) (Nat.le_of_ble_eq_true rfl) dt_Tb_78 (fun p7 H hq1 hq2 hP hD hS => ?_)
  refine W.widen (k := 48) (n := 495) (by omega) (by omega) ?_
  refine lv_dup hx hb dt_Tb_81 rfl ?_
  refine z_callN (q := p7) hx hb hml hl.1 hown hts (c_Walk l D τ p7 H.size) wc_Walk rfl rfl hnWalk wn_Walk ws_Walk rfl (by decide +kernel) ⟨Nat.le_of_ble_eq_true rfl, Nat.le_of_ble_eq_true rfl⟩ eb_0 (fun _ _ _ => trivial) hK hP hD hS hA (Nat.le_of_ble_eq_true rfl) dt_Tb_82 ⟨Nat.le_of_ble_eq_true rfl, Nat.le_of_ble_eq_true rfl⟩ (fun w2 H locs hpo hP hD hS => ?_)
  refine W.widen (k := 50) (n := 507) (by omega) (by omega) ?_
  rw [show p7 = w2 0 from hpo.symm]
  obtain ⟨hP, hD⟩ := z_prm (ws' := (h0, .inr (6, [.ref (uG.1 0), .ref (uB 0), .ref qW, .int 0, .ref (uA 0), .ref qS, .ref (uS 0)])) :: ((qW, ct_V τ 8 (va_up (va_up (fun _ => none) 0 (some (w0 0))) 1 (some (w1 0)))) :: ((qS, ct_S τ 4 (fun _ => none)) :: (cl_Walk τ w2 ++ (cl_Walk τ w1 ++ (cl_Walk τ w0 ++ (cl_Sums τ uS ++ (cl_Acts τ uA ++ (cl_Board τ uB ++ (cl_Group τ uG)))))))))) (List.Perm.cons _ (List.Perm.cons _ (List.Perm.cons _ List.perm_append_comm))) hP hD
  refine va_astq (r := (RX5, TX5, 6)) hx hb hK hP hD hS 1 3 3 5 rfl rfl rfl rfl (i := 2) (by unfold vp_in; decide) dt_Tb_85 (fun H locs hP hD hS => ?_)
  have hP : va_P D vwCl ((h0, .inr (6, [.ref (uG.1 0), .ref (uB 0), .ref qW, .int 0, .ref (uA 0), .ref qS, .ref (uS 0)])) :: ((qW, ct_V τ 8 (va_up (va_up (va_up (fun _ => none) 0 (some (w0 0))) 1 (some (w1 0))) 2 (some (w2 0)))) :: ((qS, ct_S τ 4 (fun _ => none)) :: (cl_Walk τ w2 ++ (cl_Walk τ w1 ++ (cl_Walk τ w0 ++ (cl_Sums τ uS ++ (cl_Acts τ uA ++ (cl_Board τ uB ++ (cl_Group τ uG)))))))))) H := hP
  have hD : va_D (fun q => h0 ≤ q) ((h0, .inr (6, [.ref (uG.1 0), .ref (uB 0), .ref qW, .int 0, .ref (uA 0), .ref qS, .ref (uS 0)])) :: ((qW, ct_V τ 8 (va_up (va_up (va_up (fun _ => none) 0 (some (w0 0))) 1 (some (w1 0))) 2 (some (w2 0)))) :: ((qS, ct_S τ 4 (fun _ => none)) :: (cl_Walk τ w2 ++ (cl_Walk τ w1 ++ (cl_Walk τ w0 ++ (cl_Sums τ uS ++ (cl_Acts τ uA ++ (cl_Board τ uB ++ (cl_Group τ uG)))))))))) := hD
  refine lv_iinc (k := 0) (v := 3) hx hb dt_Tb_86 hl rfl (by decide) (by decide) rfl (fun ls hl => ?_)
  have hl : lv_has ls 2 [(1, .int 3), (0, .ref h0)] := hl
  refine lv_goto (tgt := 67) hx hb dt_Tb_89 (by decide) ?_
  refine lv_iload_n hx hb dt_Tb_67 rfl (lv_at hl 0 rfl) ?_
  refine lv_bipush (v := 8) hx hb dt_Tb_68 (by decide) ?_
  refine lv_icmp_ge (tgt := 92) hx hb dt_Tb_70 (by decide) (fun h => absurd h (by decide)) (fun _ => ?_)
  refine lv_aload_n hx hb dt_Tb_73 rfl (lv_at hl 1 rfl) ?_
  refine z_getR hx hb hts hown lf_T_25 hK hP 0 rfl rfl dt_Tb_74 ?_
  refine lv_iload_n hx hb dt_Tb_77 rfl (lv_at hl 0 rfl) ?_
  refine z_new (own := RX6) (C := RX5) (T := TX5) (N := 6) (ci := 5) (fs := [.int 0, .int 0, .int 0, .int 0, .null, .null]) hx hb hts wi_5 tyX5 tyX5_ok hown wk_Walk wt_Walk wn_Walk hK hP hD hS hA rfl (by decide) (Nat.le_of_ble_eq_true rfl) (Nat.le_of_ble_eq_true rfl) dt_Tb_78 (fun p8 H hq1 hq2 hP hD hS => ?_)
  refine W.widen (k := 51) (n := 513) (by omega) (by omega) ?_
  refine lv_dup hx hb dt_Tb_81 rfl ?_
  refine z_callN (q := p8) hx hb hml hl.1 hown hts (c_Walk l D τ p8 H.size) wc_Walk rfl rfl hnWalk wn_Walk ws_Walk rfl (by decide +kernel) ⟨Nat.le_of_ble_eq_true rfl, Nat.le_of_ble_eq_true rfl⟩ eb_0 (fun _ _ _ => trivial) hK hP hD hS hA (Nat.le_of_ble_eq_true rfl) dt_Tb_82 ⟨Nat.le_of_ble_eq_true rfl, Nat.le_of_ble_eq_true rfl⟩ (fun w3 H locs hpo hP hD hS => ?_)
  refine W.widen (k := 53) (n := 525) (by omega) (by omega) ?_
  rw [show p8 = w3 0 from hpo.symm]
  obtain ⟨hP, hD⟩ := z_prm (ws' := (h0, .inr (6, [.ref (uG.1 0), .ref (uB 0), .ref qW, .int 0, .ref (uA 0), .ref qS, .ref (uS 0)])) :: ((qW, ct_V τ 8 (va_up (va_up (va_up (fun _ => none) 0 (some (w0 0))) 1 (some (w1 0))) 2 (some (w2 0)))) :: ((qS, ct_S τ 4 (fun _ => none)) :: (cl_Walk τ w3 ++ (cl_Walk τ w2 ++ (cl_Walk τ w1 ++ (cl_Walk τ w0 ++ (cl_Sums τ uS ++ (cl_Acts τ uA ++ (cl_Board τ uB ++ (cl_Group τ uG))))))))))) (List.Perm.cons _ (List.Perm.cons _ (List.Perm.cons _ List.perm_append_comm))) hP hD
  refine va_astq (r := (RX5, TX5, 6)) hx hb hK hP hD hS 1 3 3 5 rfl rfl rfl rfl (i := 3) (by unfold vp_in; decide) dt_Tb_85 (fun H locs hP hD hS => ?_)
  have hP : va_P D vwCl ((h0, .inr (6, [.ref (uG.1 0), .ref (uB 0), .ref qW, .int 0, .ref (uA 0), .ref qS, .ref (uS 0)])) :: ((qW, ct_V τ 8 (va_up (va_up (va_up (va_up (fun _ => none) 0 (some (w0 0))) 1 (some (w1 0))) 2 (some (w2 0))) 3 (some (w3 0)))) :: ((qS, ct_S τ 4 (fun _ => none)) :: (cl_Walk τ w3 ++ (cl_Walk τ w2 ++ (cl_Walk τ w1 ++ (cl_Walk τ w0 ++ (cl_Sums τ uS ++ (cl_Acts τ uA ++ (cl_Board τ uB ++ (cl_Group τ uG))))))))))) H := hP
  have hD : va_D (fun q => h0 ≤ q) ((h0, .inr (6, [.ref (uG.1 0), .ref (uB 0), .ref qW, .int 0, .ref (uA 0), .ref qS, .ref (uS 0)])) :: ((qW, ct_V τ 8 (va_up (va_up (va_up (va_up (fun _ => none) 0 (some (w0 0))) 1 (some (w1 0))) 2 (some (w2 0))) 3 (some (w3 0)))) :: ((qS, ct_S τ 4 (fun _ => none)) :: (cl_Walk τ w3 ++ (cl_Walk τ w2 ++ (cl_Walk τ w1 ++ (cl_Walk τ w0 ++ (cl_Sums τ uS ++ (cl_Acts τ uA ++ (cl_Board τ uB ++ (cl_Group τ uG))))))))))) := hD
  refine lv_iinc (k := 0) (v := 4) hx hb dt_Tb_86 hl rfl (by decide) (by decide) rfl (fun ls hl => ?_)
  have hl : lv_has ls 2 [(1, .int 4), (0, .ref h0)] := hl
  refine lv_goto (tgt := 67) hx hb dt_Tb_89 (by decide) ?_
  refine lv_iload_n hx hb dt_Tb_67 rfl (lv_at hl 0 rfl) ?_
  refine lv_bipush (v := 8) hx hb dt_Tb_68 (by decide) ?_
  refine lv_icmp_ge (tgt := 92) hx hb dt_Tb_70 (by decide) (fun h => absurd h (by decide)) (fun _ => ?_)
  refine lv_aload_n hx hb dt_Tb_73 rfl (lv_at hl 1 rfl) ?_
  refine z_getR hx hb hts hown lf_T_25 hK hP 0 rfl rfl dt_Tb_74 ?_
  refine lv_iload_n hx hb dt_Tb_77 rfl (lv_at hl 0 rfl) ?_
  refine z_new (own := RX6) (C := RX5) (T := TX5) (N := 6) (ci := 5) (fs := [.int 0, .int 0, .int 0, .int 0, .null, .null]) hx hb hts wi_5 tyX5 tyX5_ok hown wk_Walk wt_Walk wn_Walk hK hP hD hS hA rfl (by decide) (Nat.le_of_ble_eq_true rfl) (Nat.le_of_ble_eq_true rfl) dt_Tb_78 (fun p9 H hq1 hq2 hP hD hS => ?_)
  refine W.widen (k := 54) (n := 531) (by omega) (by omega) ?_
  refine lv_dup hx hb dt_Tb_81 rfl ?_
  refine z_callN (q := p9) hx hb hml hl.1 hown hts (c_Walk l D τ p9 H.size) wc_Walk rfl rfl hnWalk wn_Walk ws_Walk rfl (by decide +kernel) ⟨Nat.le_of_ble_eq_true rfl, Nat.le_of_ble_eq_true rfl⟩ eb_0 (fun _ _ _ => trivial) hK hP hD hS hA (Nat.le_of_ble_eq_true rfl) dt_Tb_82 ⟨Nat.le_of_ble_eq_true rfl, Nat.le_of_ble_eq_true rfl⟩ (fun w4 H locs hpo hP hD hS => ?_)
  refine W.widen (k := 56) (n := 543) (by omega) (by omega) ?_
  rw [show p9 = w4 0 from hpo.symm]
  obtain ⟨hP, hD⟩ := z_prm (ws' := (h0, .inr (6, [.ref (uG.1 0), .ref (uB 0), .ref qW, .int 0, .ref (uA 0), .ref qS, .ref (uS 0)])) :: ((qW, ct_V τ 8 (va_up (va_up (va_up (va_up (fun _ => none) 0 (some (w0 0))) 1 (some (w1 0))) 2 (some (w2 0))) 3 (some (w3 0)))) :: ((qS, ct_S τ 4 (fun _ => none)) :: (cl_Walk τ w4 ++ (cl_Walk τ w3 ++ (cl_Walk τ w2 ++ (cl_Walk τ w1 ++ (cl_Walk τ w0 ++ (cl_Sums τ uS ++ (cl_Acts τ uA ++ (cl_Board τ uB ++ (cl_Group τ uG)))))))))))) (List.Perm.cons _ (List.Perm.cons _ (List.Perm.cons _ List.perm_append_comm))) hP hD
  refine va_astq (r := (RX5, TX5, 6)) hx hb hK hP hD hS 1 3 3 5 rfl rfl rfl rfl (i := 4) (by unfold vp_in; decide) dt_Tb_85 (fun H locs hP hD hS => ?_)
  have hP : va_P D vwCl ((h0, .inr (6, [.ref (uG.1 0), .ref (uB 0), .ref qW, .int 0, .ref (uA 0), .ref qS, .ref (uS 0)])) :: ((qW, ct_V τ 8 (va_up (va_up (va_up (va_up (va_up (fun _ => none) 0 (some (w0 0))) 1 (some (w1 0))) 2 (some (w2 0))) 3 (some (w3 0))) 4 (some (w4 0)))) :: ((qS, ct_S τ 4 (fun _ => none)) :: (cl_Walk τ w4 ++ (cl_Walk τ w3 ++ (cl_Walk τ w2 ++ (cl_Walk τ w1 ++ (cl_Walk τ w0 ++ (cl_Sums τ uS ++ (cl_Acts τ uA ++ (cl_Board τ uB ++ (cl_Group τ uG)))))))))))) H := hP
  have hD : va_D (fun q => h0 ≤ q) ((h0, .inr (6, [.ref (uG.1 0), .ref (uB 0), .ref qW, .int 0, .ref (uA 0), .ref qS, .ref (uS 0)])) :: ((qW, ct_V τ 8 (va_up (va_up (va_up (va_up (va_up (fun _ => none) 0 (some (w0 0))) 1 (some (w1 0))) 2 (some (w2 0))) 3 (some (w3 0))) 4 (some (w4 0)))) :: ((qS, ct_S τ 4 (fun _ => none)) :: (cl_Walk τ w4 ++ (cl_Walk τ w3 ++ (cl_Walk τ w2 ++ (cl_Walk τ w1 ++ (cl_Walk τ w0 ++ (cl_Sums τ uS ++ (cl_Acts τ uA ++ (cl_Board τ uB ++ (cl_Group τ uG)))))))))))) := hD
  refine lv_iinc (k := 0) (v := 5) hx hb dt_Tb_86 hl rfl (by decide) (by decide) rfl (fun ls hl => ?_)
  have hl : lv_has ls 2 [(1, .int 5), (0, .ref h0)] := hl
  refine lv_goto (tgt := 67) hx hb dt_Tb_89 (by decide) ?_
  refine lv_iload_n hx hb dt_Tb_67 rfl (lv_at hl 0 rfl) ?_
  refine lv_bipush (v := 8) hx hb dt_Tb_68 (by decide) ?_
  refine lv_icmp_ge (tgt := 92) hx hb dt_Tb_70 (by decide) (fun h => absurd h (by decide)) (fun _ => ?_)
  refine lv_aload_n hx hb dt_Tb_73 rfl (lv_at hl 1 rfl) ?_
  refine z_getR hx hb hts hown lf_T_25 hK hP 0 rfl rfl dt_Tb_74 ?_
  refine lv_iload_n hx hb dt_Tb_77 rfl (lv_at hl 0 rfl) ?_
  refine z_new (own := RX6) (C := RX5) (T := TX5) (N := 6) (ci := 5) (fs := [.int 0, .int 0, .int 0, .int 0, .null, .null]) hx hb hts wi_5 tyX5 tyX5_ok hown wk_Walk wt_Walk wn_Walk hK hP hD hS hA rfl (by decide) (Nat.le_of_ble_eq_true rfl) (Nat.le_of_ble_eq_true rfl) dt_Tb_78 (fun p10 H hq1 hq2 hP hD hS => ?_)
  refine W.widen (k := 57) (n := 549) (by omega) (by omega) ?_
  refine lv_dup hx hb dt_Tb_81 rfl ?_
  refine z_callN (q := p10) hx hb hml hl.1 hown hts (c_Walk l D τ p10 H.size) wc_Walk rfl rfl hnWalk wn_Walk ws_Walk rfl (by decide +kernel) ⟨Nat.le_of_ble_eq_true rfl, Nat.le_of_ble_eq_true rfl⟩ eb_0 (fun _ _ _ => trivial) hK hP hD hS hA (Nat.le_of_ble_eq_true rfl) dt_Tb_82 ⟨Nat.le_of_ble_eq_true rfl, Nat.le_of_ble_eq_true rfl⟩ (fun w5 H locs hpo hP hD hS => ?_)
  refine W.widen (k := 59) (n := 561) (by omega) (by omega) ?_
  rw [show p10 = w5 0 from hpo.symm]
  obtain ⟨hP, hD⟩ := z_prm (ws' := (h0, .inr (6, [.ref (uG.1 0), .ref (uB 0), .ref qW, .int 0, .ref (uA 0), .ref qS, .ref (uS 0)])) :: ((qW, ct_V τ 8 (va_up (va_up (va_up (va_up (va_up (fun _ => none) 0 (some (w0 0))) 1 (some (w1 0))) 2 (some (w2 0))) 3 (some (w3 0))) 4 (some (w4 0)))) :: ((qS, ct_S τ 4 (fun _ => none)) :: (cl_Walk τ w5 ++ (cl_Walk τ w4 ++ (cl_Walk τ w3 ++ (cl_Walk τ w2 ++ (cl_Walk τ w1 ++ (cl_Walk τ w0 ++ (cl_Sums τ uS ++ (cl_Acts τ uA ++ (cl_Board τ uB ++ (cl_Group τ uG))))))))))))) (List.Perm.cons _ (List.Perm.cons _ (List.Perm.cons _ List.perm_append_comm))) hP hD
  refine va_astq (r := (RX5, TX5, 6)) hx hb hK hP hD hS 1 3 3 5 rfl rfl rfl rfl (i := 5) (by unfold vp_in; decide) dt_Tb_85 (fun H locs hP hD hS => ?_)
  have hP : va_P D vwCl ((h0, .inr (6, [.ref (uG.1 0), .ref (uB 0), .ref qW, .int 0, .ref (uA 0), .ref qS, .ref (uS 0)])) :: ((qW, ct_V τ 8 (va_up (va_up (va_up (va_up (va_up (va_up (fun _ => none) 0 (some (w0 0))) 1 (some (w1 0))) 2 (some (w2 0))) 3 (some (w3 0))) 4 (some (w4 0))) 5 (some (w5 0)))) :: ((qS, ct_S τ 4 (fun _ => none)) :: (cl_Walk τ w5 ++ (cl_Walk τ w4 ++ (cl_Walk τ w3 ++ (cl_Walk τ w2 ++ (cl_Walk τ w1 ++ (cl_Walk τ w0 ++ (cl_Sums τ uS ++ (cl_Acts τ uA ++ (cl_Board τ uB ++ (cl_Group τ uG))))))))))))) H := hP
  have hD : va_D (fun q => h0 ≤ q) ((h0, .inr (6, [.ref (uG.1 0), .ref (uB 0), .ref qW, .int 0, .ref (uA 0), .ref qS, .ref (uS 0)])) :: ((qW, ct_V τ 8 (va_up (va_up (va_up (va_up (va_up (va_up (fun _ => none) 0 (some (w0 0))) 1 (some (w1 0))) 2 (some (w2 0))) 3 (some (w3 0))) 4 (some (w4 0))) 5 (some (w5 0)))) :: ((qS, ct_S τ 4 (fun _ => none)) :: (cl_Walk τ w5 ++ (cl_Walk τ w4 ++ (cl_Walk τ w3 ++ (cl_Walk τ w2 ++ (cl_Walk τ w1 ++ (cl_Walk τ w0 ++ (cl_Sums τ uS ++ (cl_Acts τ uA ++ (cl_Board τ uB ++ (cl_Group τ uG))))))))))))) := hD
  refine lv_iinc (k := 0) (v := 6) hx hb dt_Tb_86 hl rfl (by decide) (by decide) rfl (fun ls hl => ?_)
  have hl : lv_has ls 2 [(1, .int 6), (0, .ref h0)] := hl
  refine lv_goto (tgt := 67) hx hb dt_Tb_89 (by decide) ?_
  refine lv_iload_n hx hb dt_Tb_67 rfl (lv_at hl 0 rfl) ?_
  refine lv_bipush (v := 8) hx hb dt_Tb_68 (by decide) ?_
  refine lv_icmp_ge (tgt := 92) hx hb dt_Tb_70 (by decide) (fun h => absurd h (by decide)) (fun _ => ?_)
  refine lv_aload_n hx hb dt_Tb_73 rfl (lv_at hl 1 rfl) ?_
  refine z_getR hx hb hts hown lf_T_25 hK hP 0 rfl rfl dt_Tb_74 ?_
  refine lv_iload_n hx hb dt_Tb_77 rfl (lv_at hl 0 rfl) ?_
  refine z_new (own := RX6) (C := RX5) (T := TX5) (N := 6) (ci := 5) (fs := [.int 0, .int 0, .int 0, .int 0, .null, .null]) hx hb hts wi_5 tyX5 tyX5_ok hown wk_Walk wt_Walk wn_Walk hK hP hD hS hA rfl (by decide) (Nat.le_of_ble_eq_true rfl) (Nat.le_of_ble_eq_true rfl) dt_Tb_78 (fun p11 H hq1 hq2 hP hD hS => ?_)
  refine W.widen (k := 60) (n := 567) (by omega) (by omega) ?_
  refine lv_dup hx hb dt_Tb_81 rfl ?_
  refine z_callN (q := p11) hx hb hml hl.1 hown hts (c_Walk l D τ p11 H.size) wc_Walk rfl rfl hnWalk wn_Walk ws_Walk rfl (by decide +kernel) ⟨Nat.le_of_ble_eq_true rfl, Nat.le_of_ble_eq_true rfl⟩ eb_0 (fun _ _ _ => trivial) hK hP hD hS hA (Nat.le_of_ble_eq_true rfl) dt_Tb_82 ⟨Nat.le_of_ble_eq_true rfl, Nat.le_of_ble_eq_true rfl⟩ (fun w6 H locs hpo hP hD hS => ?_)
  refine W.widen (k := 62) (n := 579) (by omega) (by omega) ?_
  rw [show p11 = w6 0 from hpo.symm]
  obtain ⟨hP, hD⟩ := z_prm (ws' := (h0, .inr (6, [.ref (uG.1 0), .ref (uB 0), .ref qW, .int 0, .ref (uA 0), .ref qS, .ref (uS 0)])) :: ((qW, ct_V τ 8 (va_up (va_up (va_up (va_up (va_up (va_up (fun _ => none) 0 (some (w0 0))) 1 (some (w1 0))) 2 (some (w2 0))) 3 (some (w3 0))) 4 (some (w4 0))) 5 (some (w5 0)))) :: ((qS, ct_S τ 4 (fun _ => none)) :: (cl_Walk τ w6 ++ (cl_Walk τ w5 ++ (cl_Walk τ w4 ++ (cl_Walk τ w3 ++ (cl_Walk τ w2 ++ (cl_Walk τ w1 ++ (cl_Walk τ w0 ++ (cl_Sums τ uS ++ (cl_Acts τ uA ++ (cl_Board τ uB ++ (cl_Group τ uG)))))))))))))) (List.Perm.cons _ (List.Perm.cons _ (List.Perm.cons _ List.perm_append_comm))) hP hD
  refine va_astq (r := (RX5, TX5, 6)) hx hb hK hP hD hS 1 3 3 5 rfl rfl rfl rfl (i := 6) (by unfold vp_in; decide) dt_Tb_85 (fun H locs hP hD hS => ?_)
  have hP : va_P D vwCl ((h0, .inr (6, [.ref (uG.1 0), .ref (uB 0), .ref qW, .int 0, .ref (uA 0), .ref qS, .ref (uS 0)])) :: ((qW, ct_V τ 8 (va_up (va_up (va_up (va_up (va_up (va_up (va_up (fun _ => none) 0 (some (w0 0))) 1 (some (w1 0))) 2 (some (w2 0))) 3 (some (w3 0))) 4 (some (w4 0))) 5 (some (w5 0))) 6 (some (w6 0)))) :: ((qS, ct_S τ 4 (fun _ => none)) :: (cl_Walk τ w6 ++ (cl_Walk τ w5 ++ (cl_Walk τ w4 ++ (cl_Walk τ w3 ++ (cl_Walk τ w2 ++ (cl_Walk τ w1 ++ (cl_Walk τ w0 ++ (cl_Sums τ uS ++ (cl_Acts τ uA ++ (cl_Board τ uB ++ (cl_Group τ uG)))))))))))))) H := hP
  have hD : va_D (fun q => h0 ≤ q) ((h0, .inr (6, [.ref (uG.1 0), .ref (uB 0), .ref qW, .int 0, .ref (uA 0), .ref qS, .ref (uS 0)])) :: ((qW, ct_V τ 8 (va_up (va_up (va_up (va_up (va_up (va_up (va_up (fun _ => none) 0 (some (w0 0))) 1 (some (w1 0))) 2 (some (w2 0))) 3 (some (w3 0))) 4 (some (w4 0))) 5 (some (w5 0))) 6 (some (w6 0)))) :: ((qS, ct_S τ 4 (fun _ => none)) :: (cl_Walk τ w6 ++ (cl_Walk τ w5 ++ (cl_Walk τ w4 ++ (cl_Walk τ w3 ++ (cl_Walk τ w2 ++ (cl_Walk τ w1 ++ (cl_Walk τ w0 ++ (cl_Sums τ uS ++ (cl_Acts τ uA ++ (cl_Board τ uB ++ (cl_Group τ uG)))))))))))))) := hD
  refine lv_iinc (k := 0) (v := 7) hx hb dt_Tb_86 hl rfl (by decide) (by decide) rfl (fun ls hl => ?_)
  have hl : lv_has ls 2 [(1, .int 7), (0, .ref h0)] := hl
  refine lv_goto (tgt := 67) hx hb dt_Tb_89 (by decide) ?_
  refine lv_iload_n hx hb dt_Tb_67 rfl (lv_at hl 0 rfl) ?_
  refine lv_bipush (v := 8) hx hb dt_Tb_68 (by decide) ?_
  refine lv_icmp_ge (tgt := 92) hx hb dt_Tb_70 (by decide) (fun h => absurd h (by decide)) (fun _ => ?_)
  refine lv_aload_n hx hb dt_Tb_73 rfl (lv_at hl 1 rfl) ?_
  refine z_getR hx hb hts hown lf_T_25 hK hP 0 rfl rfl dt_Tb_74 ?_
  refine lv_iload_n hx hb dt_Tb_77 rfl (lv_at hl 0 rfl) ?_
  refine z_new (own := RX6) (C := RX5) (T := TX5) (N := 6) (ci := 5) (fs := [.int 0, .int 0, .int 0, .int 0, .null, .null]) hx hb hts wi_5 tyX5 tyX5_ok hown wk_Walk wt_Walk wn_Walk hK hP hD hS hA rfl (by decide) (Nat.le_of_ble_eq_true rfl) (Nat.le_of_ble_eq_true rfl) dt_Tb_78 (fun p12 H hq1 hq2 hP hD hS => ?_)
  refine W.widen (k := 63) (n := 585) (by omega) (by omega) ?_
  refine lv_dup hx hb dt_Tb_81 rfl ?_
  refine z_callN (q := p12) hx hb hml hl.1 hown hts (c_Walk l D τ p12 H.size) wc_Walk rfl rfl hnWalk wn_Walk ws_Walk rfl (by decide +kernel) ⟨Nat.le_of_ble_eq_true rfl, Nat.le_of_ble_eq_true rfl⟩ eb_0 (fun _ _ _ => trivial) hK hP hD hS hA (Nat.le_of_ble_eq_true rfl) dt_Tb_82 ⟨Nat.le_of_ble_eq_true rfl, Nat.le_of_ble_eq_true rfl⟩ (fun w7 H locs hpo hP hD hS => ?_)
  refine W.widen (k := 65) (n := 597) (by omega) (by omega) ?_
  rw [show p12 = w7 0 from hpo.symm]
  obtain ⟨hP, hD⟩ := z_prm (ws' := (h0, .inr (6, [.ref (uG.1 0), .ref (uB 0), .ref qW, .int 0, .ref (uA 0), .ref qS, .ref (uS 0)])) :: ((qW, ct_V τ 8 (va_up (va_up (va_up (va_up (va_up (va_up (va_up (fun _ => none) 0 (some (w0 0))) 1 (some (w1 0))) 2 (some (w2 0))) 3 (some (w3 0))) 4 (some (w4 0))) 5 (some (w5 0))) 6 (some (w6 0)))) :: ((qS, ct_S τ 4 (fun _ => none)) :: (cl_Walk τ w7 ++ (cl_Walk τ w6 ++ (cl_Walk τ w5 ++ (cl_Walk τ w4 ++ (cl_Walk τ w3 ++ (cl_Walk τ w2 ++ (cl_Walk τ w1 ++ (cl_Walk τ w0 ++ (cl_Sums τ uS ++ (cl_Acts τ uA ++ (cl_Board τ uB ++ (cl_Group τ uG))))))))))))))) (List.Perm.cons _ (List.Perm.cons _ (List.Perm.cons _ List.perm_append_comm))) hP hD
  refine va_astq (r := (RX5, TX5, 6)) hx hb hK hP hD hS 1 3 3 5 rfl rfl rfl rfl (i := 7) (by unfold vp_in; decide) dt_Tb_85 (fun H locs hP hD hS => ?_)
  have hP : va_P D vwCl ((h0, .inr (6, [.ref (uG.1 0), .ref (uB 0), .ref qW, .int 0, .ref (uA 0), .ref qS, .ref (uS 0)])) :: ((qW, ct_V τ 8 (va_up (va_up (va_up (va_up (va_up (va_up (va_up (va_up (fun _ => none) 0 (some (w0 0))) 1 (some (w1 0))) 2 (some (w2 0))) 3 (some (w3 0))) 4 (some (w4 0))) 5 (some (w5 0))) 6 (some (w6 0))) 7 (some (w7 0)))) :: ((qS, ct_S τ 4 (fun _ => none)) :: (cl_Walk τ w7 ++ (cl_Walk τ w6 ++ (cl_Walk τ w5 ++ (cl_Walk τ w4 ++ (cl_Walk τ w3 ++ (cl_Walk τ w2 ++ (cl_Walk τ w1 ++ (cl_Walk τ w0 ++ (cl_Sums τ uS ++ (cl_Acts τ uA ++ (cl_Board τ uB ++ (cl_Group τ uG))))))))))))))) H := hP
  have hD : va_D (fun q => h0 ≤ q) ((h0, .inr (6, [.ref (uG.1 0), .ref (uB 0), .ref qW, .int 0, .ref (uA 0), .ref qS, .ref (uS 0)])) :: ((qW, ct_V τ 8 (va_up (va_up (va_up (va_up (va_up (va_up (va_up (va_up (fun _ => none) 0 (some (w0 0))) 1 (some (w1 0))) 2 (some (w2 0))) 3 (some (w3 0))) 4 (some (w4 0))) 5 (some (w5 0))) 6 (some (w6 0))) 7 (some (w7 0)))) :: ((qS, ct_S τ 4 (fun _ => none)) :: (cl_Walk τ w7 ++ (cl_Walk τ w6 ++ (cl_Walk τ w5 ++ (cl_Walk τ w4 ++ (cl_Walk τ w3 ++ (cl_Walk τ w2 ++ (cl_Walk τ w1 ++ (cl_Walk τ w0 ++ (cl_Sums τ uS ++ (cl_Acts τ uA ++ (cl_Board τ uB ++ (cl_Group τ uG))))))))))))))) := hD
  refine lv_iinc (k := 0) (v := 8) hx hb dt_Tb_86 hl rfl (by decide) (by decide) rfl (fun ls hl => ?_)
  have hl : lv_has ls 2 [(1, .int 8), (0, .ref h0)] := hl
  refine lv_goto (tgt := 67) hx hb dt_Tb_89 (by decide) ?_
  refine lv_iload_n hx hb dt_Tb_67 rfl (lv_at hl 0 rfl) ?_
  refine lv_bipush (v := 8) hx hb dt_Tb_68 (by decide) ?_
  refine lv_icmp_ge (tgt := 92) hx hb dt_Tb_70 (by decide) (fun _ => ?_) (fun h => absurd (by decide) h)
  refine lv_iconst (v := 0) hx hb dt_Tb_92 (by decide) ?_
  refine lv_istore_n (nL := 2) hx hb dt_Tb_93 rfl hl (by decide) rfl (fun ls hl => ?_)
  have hl : lv_has ls 2 [(1, .int 0), (0, .ref h0)] := hl
  refine lv_iload_n hx hb dt_Tb_94 rfl (lv_at hl 0 rfl) ?_
  refine lv_iconst (v := 4) hx hb dt_Tb_95 (by decide) ?_
  refine lv_icmp_ge (tgt := 118) hx hb dt_Tb_96 (by decide) (fun h => absurd h (by decide)) (fun _ => ?_)
  refine lv_aload_n hx hb dt_Tb_99 rfl (lv_at hl 1 rfl) ?_
  refine z_getR hx hb hts hown lf_T_38 hK hP 0 rfl rfl dt_Tb_100 ?_
  refine lv_iload_n hx hb dt_Tb_103 rfl (lv_at hl 0 rfl) ?_
  refine z_new (own := RX6) (C := RX3) (T := TX3) (N := 4) (ci := 3) (fs := [.int 0, .int 0, .int 0, .null]) hx hb hts wi_3 tyX3 tyX3_ok hown wk_Sheet wt_Sheet wn_Sheet hK hP hD hS hA rfl (by decide) (Nat.le_of_ble_eq_true rfl) (Nat.le_of_ble_eq_true rfl) dt_Tb_104 (fun p13 H hq1 hq2 hP hD hS => ?_)
  refine W.widen (k := 66) (n := 601) (by omega) (by omega) ?_
  refine lv_dup hx hb dt_Tb_107 rfl ?_
  refine z_callN (q := p13) hx hb hml hl.1 hown hts (c_Sheet l D τ p13 H.size) wc_Sheet rfl rfl hnSheet wn_Sheet ws_Sheet rfl (by decide +kernel) ⟨Nat.le_of_ble_eq_true rfl, Nat.le_of_ble_eq_true rfl⟩ eb_0 (fun _ _ _ => trivial) hK hP hD hS hA (Nat.le_of_ble_eq_true rfl) dt_Tb_108 ⟨Nat.le_of_ble_eq_true rfl, Nat.le_of_ble_eq_true rfl⟩ (fun k0 H locs hpo hP hD hS => ?_)
  refine W.widen (k := 67) (n := 665) (by omega) (by omega) ?_
  rw [show p13 = k0 0 from hpo.symm]
  obtain ⟨hP, hD⟩ := z_prm (ws' := (h0, .inr (6, [.ref (uG.1 0), .ref (uB 0), .ref qW, .int 0, .ref (uA 0), .ref qS, .ref (uS 0)])) :: ((qW, ct_V τ 8 (va_up (va_up (va_up (va_up (va_up (va_up (va_up (va_up (fun _ => none) 0 (some (w0 0))) 1 (some (w1 0))) 2 (some (w2 0))) 3 (some (w3 0))) 4 (some (w4 0))) 5 (some (w5 0))) 6 (some (w6 0))) 7 (some (w7 0)))) :: ((qS, ct_S τ 4 (fun _ => none)) :: (cl_Sheet τ k0 ++ (cl_Walk τ w7 ++ (cl_Walk τ w6 ++ (cl_Walk τ w5 ++ (cl_Walk τ w4 ++ (cl_Walk τ w3 ++ (cl_Walk τ w2 ++ (cl_Walk τ w1 ++ (cl_Walk τ w0 ++ (cl_Sums τ uS ++ (cl_Acts τ uA ++ (cl_Board τ uB ++ (cl_Group τ uG)))))))))))))))) (List.Perm.cons _ (List.Perm.cons _ (List.Perm.cons _ List.perm_append_comm))) hP hD
  refine va_astq (r := (RX3, TX3, 4)) hx hb hK hP hD hS 2 2 3 3 rfl rfl rfl rfl (i := 0) (by unfold vp_in; decide) dt_Tb_111 (fun H locs hP hD hS => ?_)
  have hP : va_P D vwCl ((h0, .inr (6, [.ref (uG.1 0), .ref (uB 0), .ref qW, .int 0, .ref (uA 0), .ref qS, .ref (uS 0)])) :: ((qW, ct_V τ 8 (va_up (va_up (va_up (va_up (va_up (va_up (va_up (va_up (fun _ => none) 0 (some (w0 0))) 1 (some (w1 0))) 2 (some (w2 0))) 3 (some (w3 0))) 4 (some (w4 0))) 5 (some (w5 0))) 6 (some (w6 0))) 7 (some (w7 0)))) :: ((qS, ct_S τ 4 (va_up (fun _ => none) 0 (some (k0 0)))) :: (cl_Sheet τ k0 ++ (cl_Walk τ w7 ++ (cl_Walk τ w6 ++ (cl_Walk τ w5 ++ (cl_Walk τ w4 ++ (cl_Walk τ w3 ++ (cl_Walk τ w2 ++ (cl_Walk τ w1 ++ (cl_Walk τ w0 ++ (cl_Sums τ uS ++ (cl_Acts τ uA ++ (cl_Board τ uB ++ (cl_Group τ uG)))))))))))))))) H := hP
  have hD : va_D (fun q => h0 ≤ q) ((h0, .inr (6, [.ref (uG.1 0), .ref (uB 0), .ref qW, .int 0, .ref (uA 0), .ref qS, .ref (uS 0)])) :: ((qW, ct_V τ 8 (va_up (va_up (va_up (va_up (va_up (va_up (va_up (va_up (fun _ => none) 0 (some (w0 0))) 1 (some (w1 0))) 2 (some (w2 0))) 3 (some (w3 0))) 4 (some (w4 0))) 5 (some (w5 0))) 6 (some (w6 0))) 7 (some (w7 0)))) :: ((qS, ct_S τ 4 (va_up (fun _ => none) 0 (some (k0 0)))) :: (cl_Sheet τ k0 ++ (cl_Walk τ w7 ++ (cl_Walk τ w6 ++ (cl_Walk τ w5 ++ (cl_Walk τ w4 ++ (cl_Walk τ w3 ++ (cl_Walk τ w2 ++ (cl_Walk τ w1 ++ (cl_Walk τ w0 ++ (cl_Sums τ uS ++ (cl_Acts τ uA ++ (cl_Board τ uB ++ (cl_Group τ uG)))))))))))))))) := hD
  refine lv_iinc (k := 0) (v := 1) hx hb dt_Tb_112 hl rfl (by decide) (by decide) rfl (fun ls hl => ?_)
  have hl : lv_has ls 2 [(1, .int 1), (0, .ref h0)] := hl
  refine lv_goto (tgt := 94) hx hb dt_Tb_115 (by decide) ?_
  refine lv_iload_n hx hb dt_Tb_94 rfl (lv_at hl 0 rfl) ?_
  refine lv_iconst (v := 4) hx hb dt_Tb_95 (by decide) ?_
  refine lv_icmp_ge (tgt := 118) hx hb dt_Tb_96 (by decide) (fun h => absurd h (by decide)) (fun _ => ?_)
  refine lv_aload_n hx hb dt_Tb_99 rfl (lv_at hl 1 rfl) ?_
  refine z_getR hx hb hts hown lf_T_38 hK hP 0 rfl rfl dt_Tb_100 ?_
  refine lv_iload_n hx hb dt_Tb_103 rfl (lv_at hl 0 rfl) ?_
  refine z_new (own := RX6) (C := RX3) (T := TX3) (N := 4) (ci := 3) (fs := [.int 0, .int 0, .int 0, .null]) hx hb hts wi_3 tyX3 tyX3_ok hown wk_Sheet wt_Sheet wn_Sheet hK hP hD hS hA rfl (by decide) (Nat.le_of_ble_eq_true rfl) (Nat.le_of_ble_eq_true rfl) dt_Tb_104 (fun p14 H hq1 hq2 hP hD hS => ?_)
  refine W.widen (k := 68) (n := 669) (by omega) (by omega) ?_
  refine lv_dup hx hb dt_Tb_107 rfl ?_
  refine z_callN (q := p14) hx hb hml hl.1 hown hts (c_Sheet l D τ p14 H.size) wc_Sheet rfl rfl hnSheet wn_Sheet ws_Sheet rfl (by decide +kernel) ⟨Nat.le_of_ble_eq_true rfl, Nat.le_of_ble_eq_true rfl⟩ eb_0 (fun _ _ _ => trivial) hK hP hD hS hA (Nat.le_of_ble_eq_true rfl) dt_Tb_108 ⟨Nat.le_of_ble_eq_true rfl, Nat.le_of_ble_eq_true rfl⟩ (fun k1 H locs hpo hP hD hS => ?_)
  refine W.widen (k := 69) (n := 733) (by omega) (by omega) ?_
  rw [show p14 = k1 0 from hpo.symm]
  obtain ⟨hP, hD⟩ := z_prm (ws' := (h0, .inr (6, [.ref (uG.1 0), .ref (uB 0), .ref qW, .int 0, .ref (uA 0), .ref qS, .ref (uS 0)])) :: ((qW, ct_V τ 8 (va_up (va_up (va_up (va_up (va_up (va_up (va_up (va_up (fun _ => none) 0 (some (w0 0))) 1 (some (w1 0))) 2 (some (w2 0))) 3 (some (w3 0))) 4 (some (w4 0))) 5 (some (w5 0))) 6 (some (w6 0))) 7 (some (w7 0)))) :: ((qS, ct_S τ 4 (va_up (fun _ => none) 0 (some (k0 0)))) :: (cl_Sheet τ k1 ++ (cl_Sheet τ k0 ++ (cl_Walk τ w7 ++ (cl_Walk τ w6 ++ (cl_Walk τ w5 ++ (cl_Walk τ w4 ++ (cl_Walk τ w3 ++ (cl_Walk τ w2 ++ (cl_Walk τ w1 ++ (cl_Walk τ w0 ++ (cl_Sums τ uS ++ (cl_Acts τ uA ++ (cl_Board τ uB ++ (cl_Group τ uG))))))))))))))))) (List.Perm.cons _ (List.Perm.cons _ (List.Perm.cons _ List.perm_append_comm))) hP hD
  refine va_astq (r := (RX3, TX3, 4)) hx hb hK hP hD hS 2 2 3 3 rfl rfl rfl rfl (i := 1) (by unfold vp_in; decide) dt_Tb_111 (fun H locs hP hD hS => ?_)
  have hP : va_P D vwCl ((h0, .inr (6, [.ref (uG.1 0), .ref (uB 0), .ref qW, .int 0, .ref (uA 0), .ref qS, .ref (uS 0)])) :: ((qW, ct_V τ 8 (va_up (va_up (va_up (va_up (va_up (va_up (va_up (va_up (fun _ => none) 0 (some (w0 0))) 1 (some (w1 0))) 2 (some (w2 0))) 3 (some (w3 0))) 4 (some (w4 0))) 5 (some (w5 0))) 6 (some (w6 0))) 7 (some (w7 0)))) :: ((qS, ct_S τ 4 (va_up (va_up (fun _ => none) 0 (some (k0 0))) 1 (some (k1 0)))) :: (cl_Sheet τ k1 ++ (cl_Sheet τ k0 ++ (cl_Walk τ w7 ++ (cl_Walk τ w6 ++ (cl_Walk τ w5 ++ (cl_Walk τ w4 ++ (cl_Walk τ w3 ++ (cl_Walk τ w2 ++ (cl_Walk τ w1 ++ (cl_Walk τ w0 ++ (cl_Sums τ uS ++ (cl_Acts τ uA ++ (cl_Board τ uB ++ (cl_Group τ uG))))))))))))))))) H := hP
  have hD : va_D (fun q => h0 ≤ q) ((h0, .inr (6, [.ref (uG.1 0), .ref (uB 0), .ref qW, .int 0, .ref (uA 0), .ref qS, .ref (uS 0)])) :: ((qW, ct_V τ 8 (va_up (va_up (va_up (va_up (va_up (va_up (va_up (va_up (fun _ => none) 0 (some (w0 0))) 1 (some (w1 0))) 2 (some (w2 0))) 3 (some (w3 0))) 4 (some (w4 0))) 5 (some (w5 0))) 6 (some (w6 0))) 7 (some (w7 0)))) :: ((qS, ct_S τ 4 (va_up (va_up (fun _ => none) 0 (some (k0 0))) 1 (some (k1 0)))) :: (cl_Sheet τ k1 ++ (cl_Sheet τ k0 ++ (cl_Walk τ w7 ++ (cl_Walk τ w6 ++ (cl_Walk τ w5 ++ (cl_Walk τ w4 ++ (cl_Walk τ w3 ++ (cl_Walk τ w2 ++ (cl_Walk τ w1 ++ (cl_Walk τ w0 ++ (cl_Sums τ uS ++ (cl_Acts τ uA ++ (cl_Board τ uB ++ (cl_Group τ uG))))))))))))))))) := hD
  refine lv_iinc (k := 0) (v := 2) hx hb dt_Tb_112 hl rfl (by decide) (by decide) rfl (fun ls hl => ?_)
  have hl : lv_has ls 2 [(1, .int 2), (0, .ref h0)] := hl
  refine lv_goto (tgt := 94) hx hb dt_Tb_115 (by decide) ?_
  refine lv_iload_n hx hb dt_Tb_94 rfl (lv_at hl 0 rfl) ?_
  refine lv_iconst (v := 4) hx hb dt_Tb_95 (by decide) ?_
  refine lv_icmp_ge (tgt := 118) hx hb dt_Tb_96 (by decide) (fun h => absurd h (by decide)) (fun _ => ?_)
  refine lv_aload_n hx hb dt_Tb_99 rfl (lv_at hl 1 rfl) ?_
  refine z_getR hx hb hts hown lf_T_38 hK hP 0 rfl rfl dt_Tb_100 ?_
  refine lv_iload_n hx hb dt_Tb_103 rfl (lv_at hl 0 rfl) ?_
  refine z_new (own := RX6) (C := RX3) (T := TX3) (N := 4) (ci := 3) (fs := [.int 0, .int 0, .int 0, .null]) hx hb hts wi_3 tyX3 tyX3_ok hown wk_Sheet wt_Sheet wn_Sheet hK hP hD hS hA rfl (by decide) (Nat.le_of_ble_eq_true rfl) (Nat.le_of_ble_eq_true rfl) dt_Tb_104 (fun p15 H hq1 hq2 hP hD hS => ?_)
  refine W.widen (k := 70) (n := 737) (by omega) (by omega) ?_
  refine lv_dup hx hb dt_Tb_107 rfl ?_
  refine z_callN (q := p15) hx hb hml hl.1 hown hts (c_Sheet l D τ p15 H.size) wc_Sheet rfl rfl hnSheet wn_Sheet ws_Sheet rfl (by decide +kernel) ⟨Nat.le_of_ble_eq_true rfl, Nat.le_of_ble_eq_true rfl⟩ eb_0 (fun _ _ _ => trivial) hK hP hD hS hA (Nat.le_of_ble_eq_true rfl) dt_Tb_108 ⟨Nat.le_of_ble_eq_true rfl, Nat.le_of_ble_eq_true rfl⟩ (fun k2 H locs hpo hP hD hS => ?_)
  refine W.widen (k := 71) (n := 801) (by omega) (by omega) ?_
  rw [show p15 = k2 0 from hpo.symm]
  obtain ⟨hP, hD⟩ := z_prm (ws' := (h0, .inr (6, [.ref (uG.1 0), .ref (uB 0), .ref qW, .int 0, .ref (uA 0), .ref qS, .ref (uS 0)])) :: ((qW, ct_V τ 8 (va_up (va_up (va_up (va_up (va_up (va_up (va_up (va_up (fun _ => none) 0 (some (w0 0))) 1 (some (w1 0))) 2 (some (w2 0))) 3 (some (w3 0))) 4 (some (w4 0))) 5 (some (w5 0))) 6 (some (w6 0))) 7 (some (w7 0)))) :: ((qS, ct_S τ 4 (va_up (va_up (fun _ => none) 0 (some (k0 0))) 1 (some (k1 0)))) :: (cl_Sheet τ k2 ++ (cl_Sheet τ k1 ++ (cl_Sheet τ k0 ++ (cl_Walk τ w7 ++ (cl_Walk τ w6 ++ (cl_Walk τ w5 ++ (cl_Walk τ w4 ++ (cl_Walk τ w3 ++ (cl_Walk τ w2 ++ (cl_Walk τ w1 ++ (cl_Walk τ w0 ++ (cl_Sums τ uS ++ (cl_Acts τ uA ++ (cl_Board τ uB ++ (cl_Group τ uG)))))))))))))))))) (List.Perm.cons _ (List.Perm.cons _ (List.Perm.cons _ List.perm_append_comm))) hP hD
  refine va_astq (r := (RX3, TX3, 4)) hx hb hK hP hD hS 2 2 3 3 rfl rfl rfl rfl (i := 2) (by unfold vp_in; decide) dt_Tb_111 (fun H locs hP hD hS => ?_)
  have hP : va_P D vwCl ((h0, .inr (6, [.ref (uG.1 0), .ref (uB 0), .ref qW, .int 0, .ref (uA 0), .ref qS, .ref (uS 0)])) :: ((qW, ct_V τ 8 (va_up (va_up (va_up (va_up (va_up (va_up (va_up (va_up (fun _ => none) 0 (some (w0 0))) 1 (some (w1 0))) 2 (some (w2 0))) 3 (some (w3 0))) 4 (some (w4 0))) 5 (some (w5 0))) 6 (some (w6 0))) 7 (some (w7 0)))) :: ((qS, ct_S τ 4 (va_up (va_up (va_up (fun _ => none) 0 (some (k0 0))) 1 (some (k1 0))) 2 (some (k2 0)))) :: (cl_Sheet τ k2 ++ (cl_Sheet τ k1 ++ (cl_Sheet τ k0 ++ (cl_Walk τ w7 ++ (cl_Walk τ w6 ++ (cl_Walk τ w5 ++ (cl_Walk τ w4 ++ (cl_Walk τ w3 ++ (cl_Walk τ w2 ++ (cl_Walk τ w1 ++ (cl_Walk τ w0 ++ (cl_Sums τ uS ++ (cl_Acts τ uA ++ (cl_Board τ uB ++ (cl_Group τ uG)))))))))))))))))) H := hP
  have hD : va_D (fun q => h0 ≤ q) ((h0, .inr (6, [.ref (uG.1 0), .ref (uB 0), .ref qW, .int 0, .ref (uA 0), .ref qS, .ref (uS 0)])) :: ((qW, ct_V τ 8 (va_up (va_up (va_up (va_up (va_up (va_up (va_up (va_up (fun _ => none) 0 (some (w0 0))) 1 (some (w1 0))) 2 (some (w2 0))) 3 (some (w3 0))) 4 (some (w4 0))) 5 (some (w5 0))) 6 (some (w6 0))) 7 (some (w7 0)))) :: ((qS, ct_S τ 4 (va_up (va_up (va_up (fun _ => none) 0 (some (k0 0))) 1 (some (k1 0))) 2 (some (k2 0)))) :: (cl_Sheet τ k2 ++ (cl_Sheet τ k1 ++ (cl_Sheet τ k0 ++ (cl_Walk τ w7 ++ (cl_Walk τ w6 ++ (cl_Walk τ w5 ++ (cl_Walk τ w4 ++ (cl_Walk τ w3 ++ (cl_Walk τ w2 ++ (cl_Walk τ w1 ++ (cl_Walk τ w0 ++ (cl_Sums τ uS ++ (cl_Acts τ uA ++ (cl_Board τ uB ++ (cl_Group τ uG)))))))))))))))))) := hD
  refine lv_iinc (k := 0) (v := 3) hx hb dt_Tb_112 hl rfl (by decide) (by decide) rfl (fun ls hl => ?_)
  have hl : lv_has ls 2 [(1, .int 3), (0, .ref h0)] := hl
  refine lv_goto (tgt := 94) hx hb dt_Tb_115 (by decide) ?_
  refine lv_iload_n hx hb dt_Tb_94 rfl (lv_at hl 0 rfl) ?_
  refine lv_iconst (v := 4) hx hb dt_Tb_95 (by decide) ?_
  refine lv_icmp_ge (tgt := 118) hx hb dt_Tb_96 (by decide) (fun h => absurd h (by decide)) (fun _ => ?_)
  refine lv_aload_n hx hb dt_Tb_99 rfl (lv_at hl 1 rfl) ?_
  refine z_getR hx hb hts hown lf_T_38 hK hP 0 rfl rfl dt_Tb_100 ?_
  refine lv_iload_n hx hb dt_Tb_103 rfl (lv_at hl 0 rfl) ?_
  refine z_new (own := RX6) (C := RX3) (T := TX3) (N := 4) (ci := 3) (fs := [.int 0, .int 0, .int 0, .null]) hx hb hts wi_3 tyX3 tyX3_ok hown wk_Sheet wt_Sheet wn_Sheet hK hP hD hS hA rfl (by decide) (Nat.le_of_ble_eq_true rfl) (Nat.le_of_ble_eq_true rfl) dt_Tb_104 (fun p16 H hq1 hq2 hP hD hS => ?_)
  refine W.widen (k := 72) (n := 805) (by omega) (by omega) ?_
  refine lv_dup hx hb dt_Tb_107 rfl ?_
  refine z_callN (q := p16) hx hb hml hl.1 hown hts (c_Sheet l D τ p16 H.size) wc_Sheet rfl rfl hnSheet wn_Sheet ws_Sheet rfl (by decide +kernel) ⟨Nat.le_of_ble_eq_true rfl, Nat.le_of_ble_eq_true rfl⟩ eb_0 (fun _ _ _ => trivial) hK hP hD hS hA (Nat.le_of_ble_eq_true rfl) dt_Tb_108 ⟨Nat.le_of_ble_eq_true rfl, Nat.le_of_ble_eq_true rfl⟩ (fun k3 H locs hpo hP hD hS => ?_)
  refine W.widen (k := 73) (n := 869) (by omega) (by omega) ?_
  rw [show p16 = k3 0 from hpo.symm]
  obtain ⟨hP, hD⟩ := z_prm (ws' := (h0, .inr (6, [.ref (uG.1 0), .ref (uB 0), .ref qW, .int 0, .ref (uA 0), .ref qS, .ref (uS 0)])) :: ((qW, ct_V τ 8 (va_up (va_up (va_up (va_up (va_up (va_up (va_up (va_up (fun _ => none) 0 (some (w0 0))) 1 (some (w1 0))) 2 (some (w2 0))) 3 (some (w3 0))) 4 (some (w4 0))) 5 (some (w5 0))) 6 (some (w6 0))) 7 (some (w7 0)))) :: ((qS, ct_S τ 4 (va_up (va_up (va_up (fun _ => none) 0 (some (k0 0))) 1 (some (k1 0))) 2 (some (k2 0)))) :: (cl_Sheet τ k3 ++ (cl_Sheet τ k2 ++ (cl_Sheet τ k1 ++ (cl_Sheet τ k0 ++ (cl_Walk τ w7 ++ (cl_Walk τ w6 ++ (cl_Walk τ w5 ++ (cl_Walk τ w4 ++ (cl_Walk τ w3 ++ (cl_Walk τ w2 ++ (cl_Walk τ w1 ++ (cl_Walk τ w0 ++ (cl_Sums τ uS ++ (cl_Acts τ uA ++ (cl_Board τ uB ++ (cl_Group τ uG))))))))))))))))))) (List.Perm.cons _ (List.Perm.cons _ (List.Perm.cons _ List.perm_append_comm))) hP hD
  refine va_astq (r := (RX3, TX3, 4)) hx hb hK hP hD hS 2 2 3 3 rfl rfl rfl rfl (i := 3) (by unfold vp_in; decide) dt_Tb_111 (fun H locs hP hD hS => ?_)
  have hP : va_P D vwCl ((h0, .inr (6, [.ref (uG.1 0), .ref (uB 0), .ref qW, .int 0, .ref (uA 0), .ref qS, .ref (uS 0)])) :: ((qW, ct_V τ 8 (va_up (va_up (va_up (va_up (va_up (va_up (va_up (va_up (fun _ => none) 0 (some (w0 0))) 1 (some (w1 0))) 2 (some (w2 0))) 3 (some (w3 0))) 4 (some (w4 0))) 5 (some (w5 0))) 6 (some (w6 0))) 7 (some (w7 0)))) :: ((qS, ct_S τ 4 (va_up (va_up (va_up (va_up (fun _ => none) 0 (some (k0 0))) 1 (some (k1 0))) 2 (some (k2 0))) 3 (some (k3 0)))) :: (cl_Sheet τ k3 ++ (cl_Sheet τ k2 ++ (cl_Sheet τ k1 ++ (cl_Sheet τ k0 ++ (cl_Walk τ w7 ++ (cl_Walk τ w6 ++ (cl_Walk τ w5 ++ (cl_Walk τ w4 ++ (cl_Walk τ w3 ++ (cl_Walk τ w2 ++ (cl_Walk τ w1 ++ (cl_Walk τ w0 ++ (cl_Sums τ uS ++ (cl_Acts τ uA ++ (cl_Board τ uB ++ (cl_Group τ uG))))))))))))))))))) H := hP
  have hD : va_D (fun q => h0 ≤ q) ((h0, .inr (6, [.ref (uG.1 0), .ref (uB 0), .ref qW, .int 0, .ref (uA 0), .ref qS, .ref (uS 0)])) :: ((qW, ct_V τ 8 (va_up (va_up (va_up (va_up (va_up (va_up (va_up (va_up (fun _ => none) 0 (some (w0 0))) 1 (some (w1 0))) 2 (some (w2 0))) 3 (some (w3 0))) 4 (some (w4 0))) 5 (some (w5 0))) 6 (some (w6 0))) 7 (some (w7 0)))) :: ((qS, ct_S τ 4 (va_up (va_up (va_up (va_up (fun _ => none) 0 (some (k0 0))) 1 (some (k1 0))) 2 (some (k2 0))) 3 (some (k3 0)))) :: (cl_Sheet τ k3 ++ (cl_Sheet τ k2 ++ (cl_Sheet τ k1 ++ (cl_Sheet τ k0 ++ (cl_Walk τ w7 ++ (cl_Walk τ w6 ++ (cl_Walk τ w5 ++ (cl_Walk τ w4 ++ (cl_Walk τ w3 ++ (cl_Walk τ w2 ++ (cl_Walk τ w1 ++ (cl_Walk τ w0 ++ (cl_Sums τ uS ++ (cl_Acts τ uA ++ (cl_Board τ uB ++ (cl_Group τ uG))))))))))))))))))) := hD
  refine lv_iinc (k := 0) (v := 4) hx hb dt_Tb_112 hl rfl (by decide) (by decide) rfl (fun ls hl => ?_)
  have hl : lv_has ls 2 [(1, .int 4), (0, .ref h0)] := hl
  refine lv_goto (tgt := 94) hx hb dt_Tb_115 (by decide) ?_
  refine lv_iload_n hx hb dt_Tb_94 rfl (lv_at hl 0 rfl) ?_
  refine lv_iconst (v := 4) hx hb dt_Tb_95 (by decide) ?_
  refine lv_icmp_ge (tgt := 118) hx hb dt_Tb_96 (by decide) (fun _ => ?_) (fun h => absurd (by decide) h)
  exact W.vret hx hb hr (fun t ht _ => ⟨⟨(uG, uB, uA, uS, (fun j => [w0, w1, w2, w3, w4, w5, w6, w7].getD j (fun _ => 0)), (fun j => [k0, k1, k2, k3].getD j (fun _ => 0)), qW, qS), rfl, ⟨rfl, hpG.2⟩, by rw [ht]; exact hP, hD⟩, hS.F ht⟩) hS.2.2 dt_Tb_118
