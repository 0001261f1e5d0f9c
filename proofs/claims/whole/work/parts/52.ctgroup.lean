/-! THE GROUP'S CONSTRUCTOR: rows, then the group of one turn drafted and taken (by the pure machine) -/
theorem wg_27 : Cond.methodLink RX2 27 (pm_nm 11) ∈ pm_TB := pm_TB_at 70 (by decide +kernel) (by decide +kernel)
theorem wg_31 : Cond.methodLink RX2 31 (pm_nm 18) ∈ pm_TB := pm_TB_at 74 (by decide +kernel) (by decide +kernel)
def gKd : Nat → Nat := fun r => bif Nat.beq r 3 then 2 else bif Nat.ble 4 r && Nat.ble r 8 then 8 else 99
def gLn : Nat → Int := fun r => bif Nat.ble r 5 then 64 else 8
def gR : Nat → Nat → Nat := fun r k => bif Nat.beq r 3 && Nat.ble 1 k && Nat.ble k 5 then k + 3 else 0
def gEnv : pm_E := (gKd, gLn, gR, fun _ _ => 0)
def gRun : pm_O := (pm_run pm_T gEnv 200 11 0 0 (pm_ent [.inr (.inr 3), .inl 1] 2) [] (fun _ _ => 0)).bind (fun x => pm_run pm_T gEnv 400 18 2 0 (pm_ent [.inr (.inr 3), .inl 1] 1) [] x.2)
def gChk : pm_O → Bool
  | some (_, I) => decide (I 3 0 = 1) && decide (I 5 0 = 0) && decide (I 6 0 = 0) && decide (I 7 0 = 0) && decide (I 8 0 = 1)
  | none => false
theorem gChk_ok : gChk gRun = true := by decide +kernel
theorem gRuns : ∃ x y : Int × pm_I, pm_X pm_T gEnv 11 0 0 (pm_ent [.inr (.inr 3), .inl 1] 2) [] (fun _ _ => 0) = some x ∧ pm_X pm_T gEnv 18 2 0 (pm_ent [.inr (.inr 3), .inl 1] 1) [] x.2 = some y ∧ y.2 3 0 = 1 ∧ y.2 5 0 = 0 ∧ y.2 6 0 = 0 ∧ y.2 7 0 = 0 ∧ y.2 8 0 = 1 := by
  have h := gChk_ok
  cases hr : gRun with
  | none => rw [hr] at h; cases h
  | some y =>
    rw [hr] at h
    obtain ⟨r, I⟩ := y
    simp only [gChk, Bool.and_eq_true, decide_eq_true_eq] at h
    obtain ⟨x, x1, x2⟩ := Option.bind_eq_some_iff.mp hr
    exact ⟨x, (r, I), (pm_X_iff pm_T_ct gEnv _ _ _ _ _ _ _).mpr ⟨_, x1⟩, (pm_X_iff pm_T_ct gEnv _ _ _ _ _ _ _).mpr ⟨_, x2⟩, h.1.1.1.1, h.1.1.1.2, h.1.1.2, h.1.2, h.2⟩
theorem g_av : ∀ v ∈ ([.inr (.inr 3), .inl 1] : List pm_V), pm_ok v := List.forall_mem_cons.mpr ⟨trivial, List.forall_mem_cons.mpr ⟨by show pm_r32 1; omega, fun _ h => absurd h List.not_mem_nil⟩⟩
theorem gEW (θ : pm_TH) (hn : pm_nn θ = 6) : pm_EW θ gEnv := by
  have k : ∀ r, (gKd r = 2 ∧ r = 3) ∨ (gKd r = 8 ∧ 4 ≤ r ∧ r ≤ 8) ∨ gKd r = 99 := fun r => by
    unfold gKd
    cases h1 : Nat.beq r 3 with
    | true => exact Or.inl ⟨rfl, Nat.eq_of_beq_eq_true h1⟩
    | false =>
      cases h2 : (Nat.ble 4 r && Nat.ble r 8) with
      | true =>
        rw [Bool.and_eq_true] at h2
        exact Or.inr (Or.inl ⟨rfl, Nat.le_of_ble_eq_true h2.1, Nat.le_of_ble_eq_true h2.2⟩)
      | false => exact Or.inr (Or.inr rfl)
  refine ⟨fun r h => ?_, fun r => ?_, fun r h => ?_, fun r j h => ?_⟩
  · have h : gKd r ≤ 12 := h
    rcases k r with q | q | q <;> omega
  · show pm_r32 (gLn r) ∧ 0 ≤ gLn r
    unfold gLn
    cases Nat.ble r 5 <;> decide
  · have h : gKd r = 50 := h
    rcases k r with q | q | q <;> omega
  · have h : gKd r = 50 := h
    rcases k r with q | q | q <;> omega
/-- what the group's constructor is given -/
def ct_EG (h0 sz : Nat) (U : State) : Prop := h0 + 1 = sz ∧ ∃ bs a1 : Nat, bs ≤ h0 ∧ va_Z RX2 "UNITS" "[I" (.ref a1) (fun q => bs ≤ q) U U.heap ∧ va_Nw (.methodLinkNest RX6 304 ⟨RX4, "sumFrom", "(IJLTurnBoards$Sums;[LTurnBoards$Walk;ILTurnBoards$Group;)J"⟩ "TurnBoards") U
def cl_Group (τ : ClassId × ClassId × ClassId × ClassId × ClassId) (u : (Nat → Nat) × pm_I) : va_W := [(u.1 0, .inr (2, [.int (Int32.ofInt (u.2 3 0)), .ref (u.1 1), .ref (u.1 2), .ref (u.1 3), .ref (u.1 4), .ref (u.1 5)])), (u.1 1, .inl (τ.1, 64, .inl (fun j => Int32.ofInt (u.2 4 j)))), (u.1 2, .inl (τ.1, 64, .inl (fun j => Int32.ofInt (u.2 5 j)))), (u.1 3, .inl (τ.1, 8, .inl (fun j => Int32.ofInt (u.2 6 j)))), (u.1 4, .inl (τ.1, 8, .inl (fun j => Int32.ofInt (u.2 7 j)))), (u.1 5, .inl (τ.1, 8, .inl (fun j => Int32.ofInt (u.2 8 j))))]
def cp_Group (h0 : Nat) (u : (Nat → Nat) × pm_I) : Prop := u.1 0 = h0 ∧ (u.2 3 0 = 1 ∧ u.2 5 0 = 0 ∧ u.2 6 0 = 0 ∧ u.2 7 0 = 0 ∧ u.2 8 0 = 1) ∧ ∀ r j, pm_r32 (u.2 r j)
set_option maxHeartbeats 4000000 in
set_option maxRecDepth 100000 in
theorem c_Group (l : Launch) (D : va_G) (τ : ClassId × ClassId × ClassId × ClassId × ClassId) (h0 sz : Nat) : Met l ⟨RX2, "<init>", "()V"⟩ (Cond.code ⟨RX2, "<init>", "()V"⟩ prog_4_method_1_code 1 none :: pm_TB) ({ frames := 4, cells := 5, slots := 152, locals := 200 }) (ct_Pc D τ h0 (.inr (2, [.int 0, .null, .null, .null, .null, .null])) sz (ct_EG h0 sz)) (ct_Qc D (va_A [(h0, .inr (2, [.int 0, .null, .null, .null, .null, .null]))] sz) (cp_Group h0) (cl_Group τ)) 5 152 (va_A [(h0, .inr (2, [.int 0, .null, .null, .null, .null, .null]))] sz) := by
  refine Met.ofW (cc := prog_4_method_1_code) (maxL := 1) (ret := none) (by decide) rfl ?_
  intro p e s m args below meth c s₁ B hml hv
  obtain ⟨rfl, hsz, hP, hK, hD0, hE⟩ := hv
  have hx := B.exec
  have hb := B.bytes
  have hr := B.returns
  have hts0 := atoms_spec (ws := (Cond.code ⟨RX2, "<init>", "()V"⟩ prog_4_method_1_code 1 none :: pm_TB)) B.pre
  have hts : ∀ w ∈ pm_TB, w.before _ s = true := fun w hw => hts0 w (List.mem_cons_of_mem _ hw)
  have hown : s.vm.findClass RX2 = some m.cls := findClass_of_methodNamed B.named
  have hlocks := B.notSynchronized
  have hin : meth.name = "<init>" := (name_of_methodNamed B.named B.method).1
  subst hsz
  have hD := hD0.self (sz := s.heap.size)
  generalize hAe : va_A [(h0, .inr (2, [.int 0, .null, .null, .null, .null, .null]))] s.heap.size = A at hD ⊢
  have hA : ∀ q : Nat, s.heap.size ≤ q → A q := fun q h => by rw [← hAe]; exact Or.inr h
  have hS : va_S A s.heap s.heap [] := va_S.rf
  have hP : va_P D vwCl [(h0, .inr (2, [.int 0, .null, .null, .null, .null, .null]))] s.heap := hP
  have hl := lv_entry ([.ref h0]) (n := 1) (Nat.le_of_ble_eq_true rfl)
  rw [lg_entry_eq]
  generalize (lg_sl ([.ref h0]) ++ List.replicate (1 - (lg_sl ([.ref h0])).length) Slot.unset).toArray = ls at hl ⊢
  have hl : lv_has ls 1 [(0, .ref h0)] := hl
  refine lv_aload_n hx hb dt_Group_0 rfl (lv_at hl 0 rfl) ?_
  refine W.objInit hx hb hown (hts _ wo_Group) (hts _ w_obi) (hts _ w_obc) rfl (by rw [hml]; exact hl.1) rfl dt_Group_1 (Nat.le_of_ble_eq_true rfl) (Nat.le_of_ble_eq_true rfl) ?_
  refine W.eq (g2 := F0 m 4 ls []) rfl ?_
  obtain ⟨hsz1, bs, a1, hbs, hZ, hNw⟩ := hE
  obtain rfl : A = (fun q => h0 ≤ q) := by
    rw [← hAe]
    funext q
    apply propext
    constructor
    · intro h
      rcases h with ⟨k, e, h⟩ | h
      · cases k with
        | zero => cases h; exact Nat.le_refl _
        | succ k => cases h
      · omega
    · intro h
      have h : h0 ≤ q := h
      by_cases z : q = h0
      · subst z; exact Or.inl ⟨0, _, rfl⟩
      · exact Or.inr (by omega)
  refine lv_aload_n hx hb dt_Group_4 rfl (lv_at hl 0 rfl) ?_
  refine lv_bipush (v := 64) hx hb dt_Group_5 (by decide) ?_
  refine z_newI (N := 64) hx hb hts hK hP hD hS hA (by decide) (by decide) (by decide) (Nat.le_of_ble_eq_true rfl) (Nat.le_of_ble_eq_true rfl) dt_Group_7 (fun q1 H hP hD hS => ?_)
  have hP : va_P D vwCl ([(h0, .inr (2, [.int 0, .null, .null, .null, .null, .null])), (q1, ct_I τ 64)]) H := hP
  have hD : va_D (fun q => h0 ≤ q) ([(h0, .inr (2, [.int 0, .null, .null, .null, .null, .null])), (q1, ct_I τ 64)]) := hD
  refine W.widen (k := 1) (n := 64) (by omega) (by omega) ?_
  refine z_putR (own := RX2) hx hb hts hown hin fr_Group_9 hK hP hD hS 0 rfl (Nat.le_of_ble_eq_true rfl) dt_Group_9 (fun H locs hP hD hS => ?_)
  have hP : va_P D vwCl ([(h0, .inr (2, [.int 0, .ref q1, .null, .null, .null, .null])), (q1, ct_I τ 64)]) H := hP
  have hD : va_D (fun q => h0 ≤ q) ([(h0, .inr (2, [.int 0, .ref q1, .null, .null, .null, .null])), (q1, ct_I τ 64)]) := hD
  refine lv_aload_n hx hb dt_Group_12 rfl (lv_at hl 0 rfl) ?_
  refine lv_bipush (v := 64) hx hb dt_Group_13 (by decide) ?_
  refine z_newI (N := 64) hx hb hts hK hP hD hS hA (by decide) (by decide) (by decide) (Nat.le_of_ble_eq_true rfl) (Nat.le_of_ble_eq_true rfl) dt_Group_15 (fun q2 H hP hD hS => ?_)
  have hP : va_P D vwCl ([(h0, .inr (2, [.int 0, .ref q1, .null, .null, .null, .null])), (q1, ct_I τ 64), (q2, ct_I τ 64)]) H := hP
  have hD : va_D (fun q => h0 ≤ q) ([(h0, .inr (2, [.int 0, .ref q1, .null, .null, .null, .null])), (q1, ct_I τ 64), (q2, ct_I τ 64)]) := hD
  refine W.widen (k := 2) (n := 128) (by omega) (by omega) ?_
  refine z_putR (own := RX2) hx hb hts hown hin fr_Group_15 hK hP hD hS 0 rfl (Nat.le_of_ble_eq_true rfl) dt_Group_17 (fun H locs hP hD hS => ?_)
  have hP : va_P D vwCl ([(h0, .inr (2, [.int 0, .ref q1, .ref q2, .null, .null, .null])), (q1, ct_I τ 64), (q2, ct_I τ 64)]) H := hP
  have hD : va_D (fun q => h0 ≤ q) ([(h0, .inr (2, [.int 0, .ref q1, .ref q2, .null, .null, .null])), (q1, ct_I τ 64), (q2, ct_I τ 64)]) := hD
  refine lv_aload_n hx hb dt_Group_20 rfl (lv_at hl 0 rfl) ?_
  refine lv_bipush (v := 8) hx hb dt_Group_21 (by decide) ?_
  refine z_newI (N := 8) hx hb hts hK hP hD hS hA (by decide) (by decide) (by decide) (Nat.le_of_ble_eq_true rfl) (Nat.le_of_ble_eq_true rfl) dt_Group_23 (fun q3 H hP hD hS => ?_)
  have hP : va_P D vwCl ([(h0, .inr (2, [.int 0, .ref q1, .ref q2, .null, .null, .null])), (q1, ct_I τ 64), (q2, ct_I τ 64), (q3, ct_I τ 8)]) H := hP
  have hD : va_D (fun q => h0 ≤ q) ([(h0, .inr (2, [.int 0, .ref q1, .ref q2, .null, .null, .null])), (q1, ct_I τ 64), (q2, ct_I τ 64), (q3, ct_I τ 8)]) := hD
  refine W.widen (k := 3) (n := 136) (by omega) (by omega) ?_
  refine z_putR (own := RX2) hx hb hts hown hin fr_Group_18 hK hP hD hS 0 rfl (Nat.le_of_ble_eq_true rfl) dt_Group_25 (fun H locs hP hD hS => ?_)
  have hP : va_P D vwCl ([(h0, .inr (2, [.int 0, .ref q1, .ref q2, .ref q3, .null, .null])), (q1, ct_I τ 64), (q2, ct_I τ 64), (q3, ct_I τ 8)]) H := hP
  have hD : va_D (fun q => h0 ≤ q) ([(h0, .inr (2, [.int 0, .ref q1, .ref q2, .ref q3, .null, .null])), (q1, ct_I τ 64), (q2, ct_I τ 64), (q3, ct_I τ 8)]) := hD
  refine lv_aload_n hx hb dt_Group_28 rfl (lv_at hl 0 rfl) ?_
  refine lv_bipush (v := 8) hx hb dt_Group_29 (by decide) ?_
  refine z_newI (N := 8) hx hb hts hK hP hD hS hA (by decide) (by decide) (by decide) (Nat.le_of_ble_eq_true rfl) (Nat.le_of_ble_eq_true rfl) dt_Group_31 (fun q4 H hP hD hS => ?_)
  have hP : va_P D vwCl ([(h0, .inr (2, [.int 0, .ref q1, .ref q2, .ref q3, .null, .null])), (q1, ct_I τ 64), (q2, ct_I τ 64), (q3, ct_I τ 8), (q4, ct_I τ 8)]) H := hP
  have hD : va_D (fun q => h0 ≤ q) ([(h0, .inr (2, [.int 0, .ref q1, .ref q2, .ref q3, .null, .null])), (q1, ct_I τ 64), (q2, ct_I τ 64), (q3, ct_I τ 8), (q4, ct_I τ 8)]) := hD
  refine W.widen (k := 4) (n := 144) (by omega) (by omega) ?_
  refine z_putR (own := RX2) hx hb hts hown hin fr_Group_21 hK hP hD hS 0 rfl (Nat.le_of_ble_eq_true rfl) dt_Group_33 (fun H locs hP hD hS => ?_)
  have hP : va_P D vwCl ([(h0, .inr (2, [.int 0, .ref q1, .ref q2, .ref q3, .ref q4, .null])), (q1, ct_I τ 64), (q2, ct_I τ 64), (q3, ct_I τ 8), (q4, ct_I τ 8)]) H := hP
  have hD : va_D (fun q => h0 ≤ q) ([(h0, .inr (2, [.int 0, .ref q1, .ref q2, .ref q3, .ref q4, .null])), (q1, ct_I τ 64), (q2, ct_I τ 64), (q3, ct_I τ 8), (q4, ct_I τ 8)]) := hD
  refine lv_aload_n hx hb dt_Group_36 rfl (lv_at hl 0 rfl) ?_
  refine lv_bipush (v := 8) hx hb dt_Group_37 (by decide) ?_
  refine z_newI (N := 8) hx hb hts hK hP hD hS hA (by decide) (by decide) (by decide) (Nat.le_of_ble_eq_true rfl) (Nat.le_of_ble_eq_true rfl) dt_Group_39 (fun q5 H hP hD hS => ?_)
  have hP : va_P D vwCl ([(h0, .inr (2, [.int 0, .ref q1, .ref q2, .ref q3, .ref q4, .null])), (q1, ct_I τ 64), (q2, ct_I τ 64), (q3, ct_I τ 8), (q4, ct_I τ 8), (q5, ct_I τ 8)]) H := hP
  have hD : va_D (fun q => h0 ≤ q) ([(h0, .inr (2, [.int 0, .ref q1, .ref q2, .ref q3, .ref q4, .null])), (q1, ct_I τ 64), (q2, ct_I τ 64), (q3, ct_I τ 8), (q4, ct_I τ 8), (q5, ct_I τ 8)]) := hD
  refine W.widen (k := 5) (n := 152) (by omega) (by omega) ?_
  refine z_putR (own := RX2) hx hb hts hown hin fr_Group_24 hK hP hD hS 0 rfl (Nat.le_of_ble_eq_true rfl) dt_Group_41 (fun H locs hP hD hS => ?_)
  have hP : va_P D vwCl ([(h0, .inr (2, [.int 0, .ref q1, .ref q2, .ref q3, .ref q4, .ref q5])), (q1, ct_I τ 64), (q2, ct_I τ 64), (q3, ct_I τ 8), (q4, ct_I τ 8), (q5, ct_I τ 8)]) H := hP
  have hD : va_D (fun q => h0 ≤ q) ([(h0, .inr (2, [.int 0, .ref q1, .ref q2, .ref q3, .ref q4, .ref q5])), (q1, ct_I τ 64), (q2, ct_I τ 64), (q3, ct_I τ 8), (q4, ct_I τ 8), (q5, ct_I τ 8)]) := hD
  obtain ⟨x, y, x1, y1, y2⟩ := gRuns
  generalize hθ : ((D, τ, (fun r => if r = 1 then a1 else [h0, q1, q2, q3, q4, q5].getD (r - 3) 0), h0, 6) : pm_TH) = θ
  have hEW : pm_EW θ gEnv := gEW θ (by rw [← hθ])
  have hws : ∀ I : pm_I, pm_ws θ gEnv I = cl_Group τ ((fun j => [h0, q1, q2, q3, q4, q5].getD j 0), I) := fun I => by rw [← hθ]; rfl
  have hD0' : pm_D θ = D := by rw [← hθ]
  have hT0 : pm_tys θ = ct_T τ := by rw [← hθ]
  have hA0 : pm_A θ = (fun q => h0 ≤ q) := by rw [← hθ]
  have hB0 : pm_bs θ = h0 := by rw [← hθ]
  have has3 : pm_as θ 3 = h0 := by rw [← hθ]; rfl
  have has1 : pm_as θ 1 = a1 := by rw [← hθ]; rfl
  have hPR : pm_PR θ gEnv (fun _ _ => 0) H := by
    refine ⟨?_, ?_, fun _ _ => by show pm_r32 0; omega⟩
    · rw [hws, hD0']; exact hP
    · rw [hws, hA0]; exact hD
  have hK' : va_K (pm_D θ) vwCl (pm_tys θ) s := by rw [hD0', hT0]; exact hK
  have hs' : pm_bs θ ≤ s.heap.size := by rw [hB0]; omega
  have hX' : pm_XC θ gEnv s s.heap := by
    refine ⟨fun r h => ?_, ?_, hNw⟩
    · have h := hEW.1
      exfalso
      rename_i h'
      have h' : gKd r = 50 := h'
      have := hEW.2.2.1
      unfold gKd at h'
      cases h1 : Nat.beq r 3 with
      | true => rw [h1] at h'; cases h'
      | false =>
        rw [h1] at h'
        cases h2 : (Nat.ble 4 r && Nat.ble r 8) with
        | true => rw [h2] at h'; cases h'
        | false => rw [h2] at h'; cases h'
    · rw [has1, hA0]
      exact hZ.narrow (fun q h => Nat.le_trans hbs h)
  have hS' : va_S (pm_A θ) s.heap H locs := by rw [hA0]; exact hS
  refine lv_aload_n hx hb dt_Group_44 rfl (lv_at hl 0 rfl) ?_
  refine lv_iconst (v := Int32.ofInt 1) hx hb dt_Group_45 rfl ?_
  have Mt := pm_Met (nl := 2) (av := [.inr (.inr 3), .inl 1]) (pm_X_gd hEW _ _ _ _ _ _ _ x1 (l := l)) mf_G_draftRing.1 rfl mf_G_draftRing.2.1 mf_G_draftRing.g g_av
  obtain ⟨m1, m2, m3, m4, m5, m6, m7, m8, m9⟩ := id mf_G_draftRing
  have etv : pm_tv θ (.inr (.inr 3)) = .ref h0 := by rw [pm_tv_ref θ (by decide), has3]
  have eav : ([.inr (.inr 3), .inl 1] : List pm_V).map (pm_tv θ) = [.ref h0, .int (Int32.ofInt 1)] := by
    show [pm_tv θ (.inr (.inr 3)), pm_tv θ (.inl 1)] = _
    rw [etv]; rfl
  refine pm_back (va_runV (C := (pm_nm 11).cls) (b := h0) (As := [.int (Int32.ofInt 1)]) (rest := []) (n := 1) ⟨hx, hb, hml, hown, hts⟩ Mt ⟨callB_of 1 hts (pm_good 11 m4) rfl rfl rfl (hts _ m5) (hts _ wg_27) ⟨m7, m8, m9⟩ ⟨Nat.le_of_ble_eq_true rfl, Nat.le_of_ble_eq_true rfl⟩, hts _ mi_G_draftRing, hts _ mv_G_draftRing⟩ ⟨pm_blind, ?_, fun U hU hW => ?_⟩ rfl rfl hl.1 rfl (lv_room (Nat.le_of_ble_eq_true rfl)) dt_Group_46 ⟨Nat.le_of_ble_eq_true rfl, Nat.le_of_ble_eq_true rfl⟩) hS' (fun H locs _ hPR hS' => ?_)
  · have := pm_recv (r := 3) (ci := 2) hEW hPR hK' rfl (by decide) (rfl : vwCl[2]? = some (RX2, TX2, 6))
    rw [has3] at this
    exact this
  · have := pm_pre (av := [.inr (.inr 3), .inl 1]) hU hW hPR hK' hs' hX' hS'
    rw [eav] at this
    exact this
  refine lv_aload_n hx hb dt_Group_49 rfl (lv_at hl 0 rfl) ?_
  refine lv_iconst (v := Int32.ofInt 1) hx hb dt_Group_50 rfl ?_
  have Mt := pm_Met (nl := 1) (av := [.inr (.inr 3), .inl 1]) (pm_X_gd hEW _ _ _ _ _ _ _ y1 (l := l)) mf_G_adopt.1 rfl mf_G_adopt.2.1 mf_G_adopt.g g_av
  obtain ⟨m1, m2, m3, m4, m5, m6, m7, m8, m9⟩ := id mf_G_adopt
  refine pm_back (va_runV (C := (pm_nm 18).cls) (b := h0) (As := [.int (Int32.ofInt 1)]) (rest := []) (n := 1) ⟨hx, hb, hml, hown, hts⟩ Mt ⟨callB_of 1 hts (pm_good 18 m4) rfl rfl rfl (hts _ m5) (hts _ wg_31) ⟨m7, m8, m9⟩ ⟨Nat.le_of_ble_eq_true rfl, Nat.le_of_ble_eq_true rfl⟩, hts _ mi_G_adopt, hts _ mv_G_adopt⟩ ⟨pm_blind, ?_, fun U hU hW => ?_⟩ rfl rfl hl.1 rfl (lv_room (Nat.le_of_ble_eq_true rfl)) dt_Group_51 ⟨Nat.le_of_ble_eq_true rfl, Nat.le_of_ble_eq_true rfl⟩) hS' (fun H locs _ hPR hS' => ?_)
  · have := pm_recv (r := 3) (ci := 2) hEW hPR hK' rfl (by decide) (rfl : vwCl[2]? = some (RX2, TX2, 6))
    rw [has3] at this
    exact this
  · have := pm_pre (av := [.inr (.inr 3), .inl 1]) hU hW hPR hK' hs' hX' hS'
    rw [eav] at this
    exact this
  rw [hA0] at hS'
  obtain ⟨g1, g2, g3⟩ := hPR
  rw [hws, hD0'] at g1
  rw [hws, hA0] at g2
  exact W.vret hx hb hr (fun t ht _ => ⟨⟨_, rfl, ⟨rfl, y2, g3⟩, by rw [ht]; exact g1, g2⟩, hS'.F ht⟩) hS'.2.2 dt_Group_54
