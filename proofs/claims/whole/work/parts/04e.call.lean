/-! CALLS -/
theorem pm_wd_tv (θ : pm_TH) : ∀ sk : List pm_V, ((sk.map (pm_tv θ)).map fun v => v.category).sum = pm_wd sk
  | [] => rfl
  | .inl n :: t => by
    rw [List.map_cons, List.map_cons, List.sum_cons, pm_wd_tv θ t]
    rfl
  | .inr (.inl x) :: t => by
    rw [List.map_cons, List.map_cons, List.sum_cons, pm_wd_tv θ t]
    rfl
  | .inr (.inr q) :: t => by
    rw [List.map_cons, List.map_cons, List.sum_cons, pm_wd_tv θ t]
    have e : (pm_tv θ (.inr (.inr q))).category = 1 := by
      show (va_rf (pm_ra θ q)).category = 1
      cases pm_ra θ q <;> rfl
    rw [e]
    rfl
theorem pm_pop_spec : ∀ {n : Nat} {sk av : List pm_V} {q : List pm_V × List pm_V}, pm_pop n sk av = some q → ∃ us, q.1 = us ++ av ∧ us.length = n ∧ sk = us.reverse ++ q.2
  | 0, sk, av, q, h => by cases h; exact ⟨[], rfl, rfl, rfl⟩
  | n + 1, v :: sk, av, q, h => by
    obtain ⟨us, h1, h2, h3⟩ := pm_pop_spec (n := n) (sk := sk) (av := v :: av) h
    exact ⟨us ++ [v], by rw [h1]; simp, by simp [h2], by rw [h3]; simp⟩
  | n + 1, [], av, q, h => by cases h
theorem pm_ent_at (θ : pm_TH) : ∀ {av : List pm_V} {nl k j : Nat} {v : pm_V}, pm_at (pm_ent av nl) j = some v → (k + j, pm_tv θ v) ∈ lv_args k (av.map (pm_tv θ)) ∧ v ∈ av
  | [], nl, k, j, v, h => by
    exfalso
    have : ∀ (nl j : Nat), pm_at (pm_pad nl) j = none := by
      intro nl
      induction nl with
      | zero => intro j; rfl
      | succ nl ih => intro j; cases j with
        | zero => rfl
        | succ j => exact ih j
    unfold pm_ent at h
    rw [this] at h
    cases h
  | .inl n :: t, nl, k, 0, v, h => by
    cases h
    exact ⟨List.mem_cons_self, List.mem_cons_self⟩
  | .inl n :: t, nl, k, j + 1, v, h => by
    obtain ⟨h1, h2⟩ := pm_ent_at θ (av := t) (nl := nl) (k := k + 1) (j := j) h
    refine ⟨List.mem_cons_of_mem _ ?_, List.mem_cons_of_mem _ h2⟩
    show (k + (j + 1), _) ∈ lv_args (k + 1) _
    rw [show k + (j + 1) = k + 1 + j by omega]
    exact h1
  | .inr (.inl x) :: t, nl, k, 0, v, h => by
    cases h
    exact ⟨List.mem_cons_self, List.mem_cons_self⟩
  | .inr (.inl x) :: t, nl, k, 1, v, h => by cases h
  | .inr (.inl x) :: t, nl, k, j + 2, v, h => by
    obtain ⟨h1, h2⟩ := pm_ent_at θ (av := t) (nl := nl) (k := k + 2) (j := j) h
    refine ⟨List.mem_cons_of_mem _ ?_, List.mem_cons_of_mem _ h2⟩
    show (k + (j + 2), _) ∈ lv_args (k + 2) _
    rw [show k + (j + 2) = k + 2 + j by omega]
    exact h1
  | .inr (.inr q) :: t, nl, k, 0, v, h => by
    cases h
    exact ⟨List.mem_cons_self, List.mem_cons_self⟩
  | .inr (.inr q) :: t, nl, k, j + 1, v, h => by
    obtain ⟨h1, h2⟩ := pm_ent_at θ (av := t) (nl := nl) (k := k + 1) (j := j) h
    refine ⟨List.mem_cons_of_mem _ ?_, List.mem_cons_of_mem _ h2⟩
    have e : (pm_tv θ (.inr (.inr q))).category = 1 := by
      show (va_rf (pm_ra θ q)).category = 1
      cases pm_ra θ q <;> rfl
    show (k + (j + 1), _) ∈ lv_args (if (pm_tv θ (.inr (.inr q))).category = 2 then k + 2 else k + 1) _
    rw [e, if_neg (by decide), show k + (j + 1) = k + 1 + j by omega]
    exact h1
theorem pm_sl_len (θ : pm_TH) : ∀ av : List pm_V, (lg_sl (av.map (pm_tv θ))).length = pm_wd av
  | [] => rfl
  | .inl n :: t => by
    show ([_] ++ lg_sl (t.map (pm_tv θ))).length = 1 + _
    rw [List.length_append, pm_sl_len θ t]; rfl
  | .inr (.inl x) :: t => by
    show ([_, _] ++ lg_sl (t.map (pm_tv θ))).length = 2 + _
    rw [List.length_append, pm_sl_len θ t]; rfl
  | .inr (.inr q) :: t => by
    have e : (pm_tv θ (.inr (.inr q))).category = 1 := by
      show (va_rf (pm_ra θ q)).category = 1
      cases pm_ra θ q <;> rfl
    show ((if (pm_tv θ (.inr (.inr q))).category = 2 then [Slot.val (pm_tv θ (.inr (.inr q))), Slot.second] else [Slot.val (pm_tv θ (.inr (.inr q)))]) ++ lg_sl (t.map (pm_tv θ))).length = 1 + _
    rw [e, if_neg (by decide), List.length_append, pm_sl_len θ t]; rfl
/-- what a method answers -/
def pm_ro (y : Nat) (r : Int) : Option Value := match pm_rty y with
  | none => none
  | some .long => some (.long (Int64.ofInt r))
  | some _ => some (.int (Int32.ofInt r))
def pm_Pc (θ : pm_TH) (env : pm_E) (av : List pm_V) (I : pm_I) : Array Value → State → Prop := fun a U => a = (av.map (pm_tv θ)).toArray ∧ pm_PR θ env I U.heap ∧ va_K (pm_D θ) vwCl (pm_tys θ) U ∧ pm_bs θ ≤ U.heap.size ∧ pm_XC θ env U U.heap
def pm_Qc (θ : pm_TH) (env : pm_E) (y : Nat) (res : Int × pm_I) : Array Value → State → Outcome → State → Prop := fun _ st oc t => oc = .returned (pm_ro y res.1) ∧ pm_rok y res.1 ∧ pm_PR θ env res.2 t.heap ∧ va_F (pm_A θ) st t
def pm_rm (d : Nat) : Room := { frames := d, cells := 0, slots := 0, locals := 60 * d }
def pm_wy (y : Nat) : List Cond := Cond.code (pm_nm y) (pm_cc y) (pm_nl y) (pm_rty y) :: pm_TB
theorem pm_blind {θ : pm_TH} {env : pm_E} {av : List pm_V} {I : pm_I} : FrameBlind (pm_Pc θ env av I) := fun a U g mk q => by
  obtain ⟨q0, qP, qK, qs, qX⟩ := q
  refine ⟨q0, qP, va_K.moved (u := U) (U := U.calling g mk a) (Vm.Alike.refl U.vm) qK, qs, ?_⟩
  exact ⟨fun r hr => ⟨(qX.1 r hr).1, va_X.moved (u := U) (U := U.calling g mk a) (Vm.Alike.refl U.vm) (qX.1 r hr).2⟩, va_Z.moved (u := U) (U := U.calling g mk a) (Vm.Alike.refl U.vm) qX.2.1, va_Nw.same rfl (U := U.calling g mk a) rfl qX.2.2⟩
/-- the kinds of answers that there are here -/
def pm_rtG (y : Nat) : Prop := pm_rty y = none ∨ pm_rty y = some .int ∨ pm_rty y = some .boolean ∨ pm_rty y = some .long
theorem pm_Met {θ : pm_TH} {l : Launch} {env : pm_E} {y d nl w : Nat} {av : List pm_V} {I : pm_I} {res : Int × pm_I} (h : pm_W θ l env y d 0 (pm_ent av nl) [] I res) (hp : plainName (pm_nm y).cls = true) (hw : pm_wd av = w) (hn : w + nl = pm_nl y) (hg : pm_rtG y) (hv : ∀ v ∈ av, pm_ok v) :
    Met l (pm_nm y) (pm_wy y) (pm_rm d) (pm_Pc θ env av I) (pm_Qc θ env y res) 0 0 (pm_A θ) := by
  refine Met.ofW (cc := pm_cc y) (maxL := pm_nl y) (ret := pm_rty y) hp rfl ?_
  intro p e s m args below meth c s₁ B hml hv0
  obtain ⟨rfl, qP, qK, qs, qX⟩ := hv0
  have hx := B.exec
  have hb := B.bytes
  have hr := B.returns
  have hts := atoms_spec (ws := pm_wy y) B.pre
  have hown : s.vm.findClass (pm_nm y).cls = some m.cls := findClass_of_methodNamed B.named
  have hlocks := B.notSynchronized
  have hl := lv_entry (av.map (pm_tv θ)) (n := pm_nl y) (by rw [pm_sl_len]; omega)
  rw [lg_entry_eq]
  generalize (lg_sl (av.map (pm_tv θ)) ++ List.replicate (pm_nl y - (lg_sl (av.map (pm_tv θ))).length) Slot.unset).toArray = ls at hl ⊢
  have hL : pm_LR θ (pm_ent av nl) ls (pm_nl y) := ⟨⟨hl.1, hl.2.1, fun q hq => by
    obtain ⟨v, h1, h2⟩ := pm_en_mem.mp hq
    have h3 := (pm_ent_at θ (k := 0) h1).1
    rw [Nat.zero_add, ← h2] at h3
    exact hl.2.2 q h3⟩, fun j v hj => hv v (pm_ent_at θ (k := 0) hj).2⟩
  refine h p e (pm_rm d) s m _ below meth c 0 0 _ ⟨hx, hb, hml, fun w hw => hts w (List.mem_cons_of_mem _ hw), hown, qK, ⟨Nat.le_refl _, Nat.le_refl _⟩, ⟨Nat.le_refl _, Nat.le_refl _⟩, qs, qX⟩ s.heap [] ls qP va_S.rf hL (fun v hv => by cases hv) ?_
  intro pc ls' H locs kP kS kr kd
  have hq : ∀ t : State, t.heap = H → pm_Qc θ env y res ((av.map (pm_tv θ)).toArray) s (.returned (pm_ro y res.1)) t := fun t ht => ⟨rfl, kr, by rw [ht]; exact kP, kS.F ht⟩
  unfold pm_rv
  unfold pm_ro at hq
  rcases hg with g | g | g | g
  · rw [g] at kd hq hr ⊢
    exact W.vret hx hb hr (fun t ht _ => hq t ht) kS.2.2 kd
  · rw [g] at kd hq hr ⊢
    exact W.iret hx hb hr (fun t ht _ => hq t ht) kS.2.2 kd
  · rw [g] at kd hq hr ⊢
    refine W.zret hx hb hr ?_ (fun t ht _ => hq t ht) kS.2.2 kd
    unfold pm_rok at kr
    rw [g] at kr
    have kr : res.1 = 0 ∨ res.1 = 1 := kr
    rcases kr with q | q <;> rw [q] <;> rfl
  · rw [g] at kd hq hr ⊢
    exact W.lret hx hb hr (fun t ht _ => hq t ht) kS.2.2 kd
theorem pm_good : ∀ y, Cond.code (pm_nm y) (pm_cc y) (pm_nl y) (pm_rty y) ∈ pm_TB → GoodIn pm_TB (pm_wy y) := fun y h w hw => by
  rcases List.mem_cons.mp hw with e | e
  · subst e; exact ⟨h, pm_TB_good _ h⟩
  · exact ⟨e, pm_TB_good _ e⟩
/-- behind a call -/
theorem pm_back {θ : pm_TH} {l : Launch} {env : pm_E} {y' : Nat} {res : Int × pm_I} {p : Program} {e : Env} {RM : Room} {s : State} {m : MethodId} {args : Array Value} {below : List Frame} {meth : Method} {c : Code} {H : Heap} {locs : List Loc} {cells slots : Nat} {Q : State → Prop} {pc : Nat} {ls : Array Slot} {st0 rest : List Value} {a : Array Value}
    (hr : va_Run p l e RM s m args below meth c H locs cells slots 0 0 (F0 m pc ls st0) rest (pm_Qc θ env y' res a) (pm_A θ)) (hS : va_S (pm_A θ) s.heap H locs)
    (kk : ∀ (H1 : Heap) (locs1 : List Loc), pm_rok y' res.1 → pm_PR θ env res.2 H1 → va_S (pm_A θ) s.heap H1 locs1 → W p l e RM s m args below meth c H1 locs1 cells slots Q (F0 m (pc + 3) ls ((pm_ro y' res.1).toList ++ rest))) : W p l e RM s m args below meth c H locs cells slots Q (F0 m pc ls st0) := by
  intro T hT X
  obtain ⟨v, st₀, t, T', L, h0, X', hL, e1, e2, ⟨hv, hk, hp, hz, hf⟩, st⟩ := hr T hT X
  cases hv
  rw [h0] at hz hf
  obtain ⟨t2, a1, b1⟩ := kk T'.heap (locs ++ L) hk (by rw [e1]; exact hp)
    ⟨Nat.le_trans hS.1 (by rw [e1]; exact hz), fun q h1 h2 => by rw [e1, hf q (Nat.lt_of_lt_of_le h1 hS.1) h2]; exact hS.2.1 q h1 h2, fun q hq => by
      rcases List.mem_append.mp hq with h | h
      · exact hS.2.2 q h
      · exact hL q h⟩ T' rfl X'
  exact ⟨t2, st t2 a1, b1⟩
theorem pm_pre {θ : pm_TH} {env : pm_E} {av : List pm_V} {I : pm_I} {s U : State} {H : Heap} {locs : List Loc} (hU : U.heap = H) (hW : s.WarmedH U.vm) (hP : pm_PR θ env I H) (hK : va_K (pm_D θ) vwCl (pm_tys θ) s) (hs : pm_bs θ ≤ s.heap.size) (hX : pm_XC θ env s s.heap) (hS : va_S (pm_A θ) s.heap H locs) : pm_Pc θ env av I (av.map (pm_tv θ)).toArray U :=
  ⟨rfl, by rw [hU]; exact hP, va_K.moved hW.alike hK, by rw [hU]; exact Nat.le_trans hs hS.1, by rw [hU]; exact (hX.kept hs hS).moved hW⟩
theorem pm_ret_st (θ : pm_TH) {y' rt : Nat} (hrt : (rt = 0 ∧ pm_rty y' = none) ∨ (rt = 1 ∧ (pm_rty y' = some .int ∨ pm_rty y' = some .boolean)) ∨ (rt = 2 ∧ pm_rty y' = some .long)) (x : Int) (t : List pm_V) : (pm_ro y' x).toList ++ t.map (pm_tv θ) = (pm_ret rt x t).map (pm_tv θ) ∧ (pm_rok y' x → (∀ u ∈ t, pm_ok u) → ∀ u ∈ pm_ret rt x t, pm_ok u) := by
  unfold pm_ro pm_rok
  rcases hrt with ⟨rfl, h⟩ | ⟨rfl, h | h⟩ | ⟨rfl, h⟩ <;> rw [h]
  · exact ⟨rfl, fun _ k => k⟩
  · exact ⟨rfl, fun q k => pm_okc (v := .inl x) q k⟩
  · refine ⟨rfl, fun q k => pm_okc (v := .inl x) ?_ k⟩
    show pm_r32 x
    have q : x = 0 ∨ x = 1 := q
    omega
  · exact ⟨rfl, fun q k => pm_okc (v := .inr (.inl x)) q k⟩
/-- what is said of a method that is called: its kind of answer, its words, its arguments -/
def pm_MF (y n w nl rt : Nat) : Prop := plainName (pm_nm y).cls = true ∧ w + nl = pm_nl y ∧ pm_nl y ≤ 40 ∧ Cond.code (pm_nm y) (pm_cc y) (pm_nl y) (pm_rty y) ∈ pm_TB ∧ Cond.initialized (pm_nm y).cls ∈ pm_TB ∧ ((rt = 0 ∧ pm_rty y = none) ∨ (rt = 1 ∧ (pm_rty y = some .int ∨ pm_rty y = some .boolean)) ∨ (rt = 2 ∧ pm_rty y = some .long)) ∧
  (pm_nm y).cls ≠ "java/lang/invoke/MethodHandle" ∧ (pm_nm y).cls ≠ "java/lang/invoke/VarHandle" ∧ (parseMethodDescriptor (pm_nm y).desc).map (fun d => d.parameters.length) = some n
theorem pm_MF.g {y n w nl rt : Nat} (h : pm_MF y n w nl rt) : pm_rtG y := by
  rcases h.2.2.2.2.2.1 with ⟨-, q⟩ | ⟨-, q | q⟩ | ⟨-, q⟩
  · exact Or.inl q
  · exact Or.inr (Or.inl q)
  · exact Or.inr (Or.inr (Or.inl q))
  · exact Or.inr (Or.inr (Or.inr q))
section CALLS
variable {θ : pm_TH} {l : Launch} {env : pm_E} {y pc nx tg : Nat}
theorem pm_recv {I : pm_I} {r ci : Nat} {H : Heap} {s : State} {Cn : String} {T : u_T} {N : Nat} (hE : pm_EW θ env) (hP : pm_PR θ env I H) (hK : va_K (pm_D θ) vwCl (pm_tys θ) s) (h : Nat.beq (env.1 r) ci = true) (hc : ci < 8) (f1 : vwCl[ci]? = some (Cn, T, N)) : ∃ cellB : Cell, H[pm_as θ r]? = some cellB ∧ cellB.vm.isStatics = false ∧ s.vm.findClass Cn = some cellB.cls := by
  obtain ⟨r0, rb, he⟩ := pm_obj (I := I) hE h hc
  obtain ⟨q, hq, cell, h1, h2, h3, h4⟩ := hP.1 _ _ he
  have e9 : (Cn, T, N) = q := Option.some.inj (f1.symm.trans hq)
  subst e9
  have hKc := hK.1 ci _ f1
  exact ⟨cell, h1, by rw [h3]; rfl, by rw [h2]; exact hKc.2.1⟩
theorem k_callS {y' n w nl rc rt idx : Nat} {rk : List pm_V → Nat} (hd : decode (pm_cc y) pc = .ok (.invokestatic idx, 3)) (hn : pc + 3 = nx) (hM : pm_MF y' n w nl rt) (hl : Cond.methodLink (pm_nm y).cls idx (pm_nm y') ∈ pm_TB) (hst : Cond.static (pm_nm y') ∈ pm_TB) : pm_Sd θ l env y pc (s_call y' n w nl rc rt rk nx) := by
  intro G hG d lo sk I res h
  subst hn
  unfold s_call at h
  cases hp : pm_pop n sk [] with
  | none => rw [hp] at h; cases h
  | some q =>
    obtain ⟨av, t⟩ := q
    rw [hp] at h
    dsimp only at h
    obtain ⟨us, u1, u2, u3⟩ := pm_pop_spec hp
    rw [List.append_nil] at u1
    have u1 : av = us := u1
    subst u1
    have u3 : sk = av.reverse ++ t := u3
    cases hrc : pm_rc env rc av with
    | false => rw [hrc] at h; cases h
    | true =>
      rw [hrc] at h
      dsimp only [cond_true] at h
      cases hcc : (Nat.blt (rk av) d && Nat.ble (pm_wd t) 8 && Nat.beq (pm_wd av) w) with
      | false => rw [hcc] at h; cases h
      | true =>
        rw [hcc] at h
        dsimp only [cond_true] at h
        rw [Bool.and_eq_true, Bool.and_eq_true] at hcc
        obtain ⟨⟨c1, c2⟩, c3⟩ := hcc
        have c1 : rk av < d := Nat.le_of_ble_eq_true c1
        have c2 := Nat.le_of_ble_eq_true c2
        have c3 := Nat.eq_of_beq_eq_true c3
        obtain ⟨x, x1, x2⟩ := Option.bind_eq_some_iff.mp h
        intro p e RM s m args below meth c cells slots Q C H locs ls hP hS hL hk hR
        obtain ⟨m1, m2, m3, m4, m5, m6, m7, m8, m9⟩ := id hM
        have hkv : ∀ v ∈ av, pm_ok v := fun v hv => hk v (by rw [u3]; exact List.mem_append_left _ (List.mem_reverse.mpr hv))
        have hkt : ∀ v ∈ t, pm_ok v := fun v hv => hk v (by rw [u3]; exact List.mem_append_right _ hv)
        have Mt := pm_Met (hG _ _ _ _ _ _ _ x1) m1 c3 m2 hM.g hkv
        obtain ⟨rs1, rs2⟩ := pm_ret_st θ m6 x.1 t
        have R1 : (pm_rm (rk av)).frames + 1 ≤ RM.frames ∧ 8 + (pm_nl y' + 11) + (pm_rm (rk av)).locals ≤ RM.locals := by
          have z1 := C.2.2.2.2.2.2.1.1
          have z2 := C.2.2.2.2.2.2.1.2
          unfold pm_rm
          dsimp only
          omega
        have hroom : ((t.map (pm_tv θ)).map fun v => v.category).sum ≤ 8 := by rw [pm_wd_tv]; exact c2
        have hsk : sk.map (pm_tv θ) = (av.map (pm_tv θ)).reverse ++ t.map (pm_tv θ) := by rw [u3, List.map_append, List.map_reverse]
        have kk : ∀ (H1 : Heap) (locs1 : List Loc), pm_rok y' x.1 → pm_PR θ env x.2 H1 → va_S (pm_A θ) s.heap H1 locs1 → W p l e RM s m args below meth c H1 locs1 cells slots Q (F0 m (pc + 3) ls ((pm_ro y' x.1).toList ++ t.map (pm_tv θ))) := fun H1 locs1 k1 k2 k3 => by
          rw [rs1]
          exact hG _ _ _ _ _ _ _ x2 p e RM s m args below meth c cells slots Q C H1 locs1 ls k2 k3 hL (rs2 k1 hkt) hR
        have hGd := pm_good y' m4
        have hfit : cells + 0 ≤ RM.cells ∧ slots + 0 ≤ RM.slots := C.2.2.2.2.2.2.2.1
        have hpre : ∀ U : State, U.heap = H → s.WarmedH U.vm → pm_Pc θ env av I (av.map (pm_tv θ)).toArray U := fun U hU hW => pm_pre hU hW hP C.2.2.2.2.2.1 C.2.2.2.2.2.2.2.2.1 C.2.2.2.2.2.2.2.2.2 hS
        rw [hsk]
        exact pm_back (va_runS (As := av.map (pm_tv θ)) (rest := t.map (pm_tv θ)) (n := n) ⟨C.1, C.2.1, C.2.2.1, C.2.2.2.2.1, C.2.2.2.1⟩ Mt ⟨callB_of n C.2.2.2.1 hGd rfl rfl rfl (C.2.2.2.1 _ m5) (C.2.2.2.1 _ hl) ⟨m7, m8, m9⟩ R1, C.2.2.2.1 _ hst⟩ ⟨pm_blind, hpre⟩ rfl (by rw [List.length_map]; exact u2) hL.1.1 rfl (lv_room hroom) hd hfit) hS kk
theorem k_callN {y' n w nl rc rt idx : Nat} {rk : List pm_V → Nat} (hd : decode (pm_cc y) pc = .ok (.invokestatic idx, 3)) (hn : pc + 3 = nx) (hM : pm_MF y' n w nl rt) (hl : (pm_nm y).cls = RX6 ∧ idx = 304 ∧ pm_nm y' = ⟨RX4, "sumFrom", "(IJLTurnBoards$Sums;[LTurnBoards$Walk;ILTurnBoards$Group;)J"⟩) (hst : Cond.static (pm_nm y') ∈ pm_TB) : pm_Sd θ l env y pc (s_call y' n w nl rc rt rk nx) := by
  intro G hG d lo sk I res h
  subst hn
  unfold s_call at h
  cases hp : pm_pop n sk [] with
  | none => rw [hp] at h; cases h
  | some q =>
    obtain ⟨av, t⟩ := q
    rw [hp] at h
    dsimp only at h
    obtain ⟨us, u1, u2, u3⟩ := pm_pop_spec hp
    rw [List.append_nil] at u1
    have u1 : av = us := u1
    subst u1
    have u3 : sk = av.reverse ++ t := u3
    cases hrc : pm_rc env rc av with
    | false => rw [hrc] at h; cases h
    | true =>
      rw [hrc] at h
      dsimp only [cond_true] at h
      cases hcc : (Nat.blt (rk av) d && Nat.ble (pm_wd t) 8 && Nat.beq (pm_wd av) w) with
      | false => rw [hcc] at h; cases h
      | true =>
        rw [hcc] at h
        dsimp only [cond_true] at h
        rw [Bool.and_eq_true, Bool.and_eq_true] at hcc
        obtain ⟨⟨c1, c2⟩, c3⟩ := hcc
        have c1 : rk av < d := Nat.le_of_ble_eq_true c1
        have c2 := Nat.le_of_ble_eq_true c2
        have c3 := Nat.eq_of_beq_eq_true c3
        obtain ⟨x, x1, x2⟩ := Option.bind_eq_some_iff.mp h
        intro p e RM s m args below meth c cells slots Q C H locs ls hP hS hL hk hR
        obtain ⟨m1, m2, m3, m4, m5, m6, m7, m8, m9⟩ := id hM
        have hkv : ∀ v ∈ av, pm_ok v := fun v hv => hk v (by rw [u3]; exact List.mem_append_left _ (List.mem_reverse.mpr hv))
        have hkt : ∀ v ∈ t, pm_ok v := fun v hv => hk v (by rw [u3]; exact List.mem_append_right _ hv)
        have Mt := pm_Met (hG _ _ _ _ _ _ _ x1) m1 c3 m2 hM.g hkv
        obtain ⟨rs1, rs2⟩ := pm_ret_st θ m6 x.1 t
        have R1 : (pm_rm (rk av)).frames + 1 ≤ RM.frames ∧ 8 + (pm_nl y' + 11) + (pm_rm (rk av)).locals ≤ RM.locals := by
          have z1 := C.2.2.2.2.2.2.1.1
          have z2 := C.2.2.2.2.2.2.1.2
          unfold pm_rm
          dsimp only
          omega
        have hroom : ((t.map (pm_tv θ)).map fun v => v.category).sum ≤ 8 := by rw [pm_wd_tv]; exact c2
        have hsk : sk.map (pm_tv θ) = (av.map (pm_tv θ)).reverse ++ t.map (pm_tv θ) := by rw [u3, List.map_append, List.map_reverse]
        have kk : ∀ (H1 : Heap) (locs1 : List Loc), pm_rok y' x.1 → pm_PR θ env x.2 H1 → va_S (pm_A θ) s.heap H1 locs1 → W p l e RM s m args below meth c H1 locs1 cells slots Q (F0 m (pc + 3) ls ((pm_ro y' x.1).toList ++ t.map (pm_tv θ))) := fun H1 locs1 k1 k2 k3 => by
          rw [rs1]
          exact hG _ _ _ _ _ _ _ x2 p e RM s m args below meth c cells slots Q C H1 locs1 ls k2 k3 hL (rs2 k1 hkt) hR
        have hGd := pm_good y' m4
        have hfit : cells + 0 ≤ RM.cells ∧ slots + 0 ≤ RM.slots := C.2.2.2.2.2.2.2.1
        have hpre : ∀ U : State, U.heap = H → s.WarmedH U.vm → pm_Pc θ env av I (av.map (pm_tv θ)).toArray U := fun U hU hW => pm_pre hU hW hP C.2.2.2.2.2.1 C.2.2.2.2.2.2.2.2.1 C.2.2.2.2.2.2.2.2.2 hS
        rw [hsk]
        have hN : va_Nw (.methodLinkNest (pm_nm y).cls idx (pm_nm y') "TurnBoards") s := by
          rw [hl.1, hl.2.1, hl.2.2]
          exact C.2.2.2.2.2.2.2.2.2.2.2
        exact pm_back (va_runSN (As := av.map (pm_tv θ)) (rest := t.map (pm_tv θ)) (n := n) ⟨C.1, C.2.1, C.2.2.1, C.2.2.2.2.1, C.2.2.2.1⟩ Mt ⟨va_cnB n C.2.2.2.1 hGd rfl rfl rfl hN (C.2.2.2.1 _ m5) ⟨m7, m8, m9⟩ R1, C.2.2.2.1 _ hst, trivial⟩ ⟨pm_blind, hpre⟩ rfl (by rw [List.length_map]; exact u2) hL.1.1 rfl (lv_room hroom) hd hfit) hS kk
theorem k_callV {y' n w nl rc rt idx n1 : Nat} {rk : List pm_V → Nat} (hE : pm_EW θ env) (hd : decode (pm_cc y) pc = .ok (.invokevirtual idx, 3)) (hn : pc + 3 = nx) (hM : pm_MF y' n1 w nl rt) (hn1 : n = n1 + 1) (hl : Cond.methodLink (pm_nm y).cls idx (pm_nm y') ∈ pm_TB) (hi : Cond.instanceMethod (pm_nm y') ∈ pm_TB) (hse : Cond.selects (pm_nm y').cls (pm_nm y') (pm_nm y') ∈ pm_TB) (hrc8 : rc < 8) (hcl : (vwCl[rc]?).map (fun q => q.1) = some (pm_nm y').cls) : pm_Sd θ l env y pc (s_call y' n w nl rc rt rk nx) := by
  intro G hG d lo sk I res h
  subst hn
  unfold s_call at h
  cases hp : pm_pop n sk [] with
  | none => rw [hp] at h; cases h
  | some q =>
    obtain ⟨av, t⟩ := q
    rw [hp] at h
    dsimp only at h
    obtain ⟨us, u1, u2, u3⟩ := pm_pop_spec hp
    rw [List.append_nil] at u1
    have u1 : av = us := u1
    subst u1
    have u3 : sk = av.reverse ++ t := u3
    cases hrc : pm_rc env rc av with
    | false => rw [hrc] at h; cases h
    | true =>
      rw [hrc] at h
      dsimp only [cond_true] at h
      cases hcc : (Nat.blt (rk av) d && Nat.ble (pm_wd t) 8 && Nat.beq (pm_wd av) w) with
      | false => rw [hcc] at h; cases h
      | true =>
        rw [hcc] at h
        dsimp only [cond_true] at h
        rw [Bool.and_eq_true, Bool.and_eq_true] at hcc
        obtain ⟨⟨c1, c2⟩, c3⟩ := hcc
        have c1 : rk av < d := Nat.le_of_ble_eq_true c1
        have c2 := Nat.le_of_ble_eq_true c2
        have c3 := Nat.eq_of_beq_eq_true c3
        obtain ⟨x, x1, x2⟩ := Option.bind_eq_some_iff.mp h
        intro p e RM s m args below meth c cells slots Q C H locs ls hP hS hL hk hR
        obtain ⟨m1, m2, m3, m4, m5, m6, m7, m8, m9⟩ := id hM
        have hkv : ∀ v ∈ av, pm_ok v := fun v hv => hk v (by rw [u3]; exact List.mem_append_left _ (List.mem_reverse.mpr hv))
        have hkt : ∀ v ∈ t, pm_ok v := fun v hv => hk v (by rw [u3]; exact List.mem_append_right _ hv)
        have Mt := pm_Met (hG _ _ _ _ _ _ _ x1) m1 c3 m2 hM.g hkv
        obtain ⟨rs1, rs2⟩ := pm_ret_st θ m6 x.1 t
        have R1 : (pm_rm (rk av)).frames + 1 ≤ RM.frames ∧ 8 + (pm_nl y' + 11) + (pm_rm (rk av)).locals ≤ RM.locals := by
          have z1 := C.2.2.2.2.2.2.1.1
          have z2 := C.2.2.2.2.2.2.1.2
          unfold pm_rm
          dsimp only
          omega
        have hroom : ((t.map (pm_tv θ)).map fun v => v.category).sum ≤ 8 := by rw [pm_wd_tv]; exact c2
        have hsk : sk.map (pm_tv θ) = (av.map (pm_tv θ)).reverse ++ t.map (pm_tv θ) := by rw [u3, List.map_append, List.map_reverse]
        have kk : ∀ (H1 : Heap) (locs1 : List Loc), pm_rok y' x.1 → pm_PR θ env x.2 H1 → va_S (pm_A θ) s.heap H1 locs1 → W p l e RM s m args below meth c H1 locs1 cells slots Q (F0 m (pc + 3) ls ((pm_ro y' x.1).toList ++ t.map (pm_tv θ))) := fun H1 locs1 k1 k2 k3 => by
          rw [rs1]
          exact hG _ _ _ _ _ _ _ x2 p e RM s m args below meth c cells slots Q C H1 locs1 ls k2 k3 hL (rs2 k1 hkt) hR
        have hGd := pm_good y' m4
        have hfit : cells + 0 ≤ RM.cells ∧ slots + 0 ≤ RM.slots := C.2.2.2.2.2.2.2.1
        have hpre : ∀ U : State, U.heap = H → s.WarmedH U.vm → pm_Pc θ env av I (av.map (pm_tv θ)).toArray U := fun U hU hW => pm_pre hU hW hP C.2.2.2.2.2.1 C.2.2.2.2.2.2.2.2.1 C.2.2.2.2.2.2.2.2.2 hS
        cases av with
        | nil => rw [hn1] at u2; cases u2
        | cons v0 As =>
          have hrc2 := hrc
          unfold pm_rc at hrc2
          rw [show Nat.beq rc 99 = false from by cases hz : Nat.beq rc 99 with | false => rfl | true => have := Nat.eq_of_beq_eq_true hz; omega] at hrc2
          dsimp only [cond_false] at hrc2
          rcases v0 with z | z | r
          · cases hrc2
          · cases hrc2
          · have hrc2 : Nat.beq (env.1 r) rc = true := hrc2
            obtain ⟨⟨Cn, T, N⟩, f1, f2⟩ := Option.map_eq_some_iff.mp hcl
            have f2 : Cn = (pm_nm y').cls := f2
            obtain ⟨r0, -, -⟩ := pm_obj (I := I) hE hrc2 hrc8
            have hrv := pm_recv hE hP C.2.2.2.2.2.1 hrc2 hrc8 f1
            rw [f2] at hrv
            have e1 : ((Sum.inr (Sum.inr r) :: As : List pm_V).map (pm_tv θ)) = .ref (pm_as θ r) :: As.map (pm_tv θ) := by rw [List.map_cons, pm_tv_ref θ r0]
            rw [e1] at hsk hpre
            rw [List.reverse_cons, List.append_assoc] at hsk
            rw [hsk]
            exact pm_back (va_runV (C := (pm_nm y').cls) (b := pm_as θ r) (As := As.map (pm_tv θ)) (rest := t.map (pm_tv θ)) (n := n1) ⟨C.1, C.2.1, C.2.2.1, C.2.2.2.2.1, C.2.2.2.1⟩ Mt ⟨callB_of n1 C.2.2.2.1 hGd rfl rfl rfl (C.2.2.2.1 _ m5) (C.2.2.2.1 _ hl) ⟨m7, m8, m9⟩ R1, C.2.2.2.1 _ hi, C.2.2.2.1 _ hse⟩ ⟨pm_blind, hrv, hpre⟩ rfl (by rw [List.length_map]; rw [hn1] at u2; exact Nat.succ.inj u2) hL.1.1 rfl (lv_room hroom) hd hfit) hS kk
theorem k_min {idx : Nat} (hd : decode (pm_cc y) pc = .ok (.invokestatic idx, 3)) (hn : pc + 3 = nx) (hl : Cond.methodLink (pm_nm y).cls idx Lib.Math.min.name ∈ pm_TB) (hst : Cond.static Lib.Math.min.name ∈ pm_TB) (hin : Cond.initialized "java/lang/Math" ∈ pm_TB) (hco : Cond.code Lib.Math.min.name Lib.Math.min.code 2 (some .int) ∈ pm_TB) : pm_Sd θ l env y pc (s_min nx) := by
  intro G hG d lo sk I res h
  subst hn
  unfold s_min at h
  split at h
  · rename_i b a t
    cases hcc : (Nat.ble 1 d && Nat.ble (pm_wd t) 8) with
    | false => rw [hcc] at h; cases h
    | true =>
      rw [hcc] at h
      rw [Bool.and_eq_true] at hcc
      have c1 := Nat.le_of_ble_eq_true hcc.1
      have c2 := Nat.le_of_ble_eq_true hcc.2
      intro p e RM s m args below meth c cells slots Q C H locs ls hP hS hL hk hR
      have hb : pm_r32 b := hk (.inl b) List.mem_cons_self
      have ha : pm_r32 a := hk (.inl a) (List.mem_cons_of_mem _ List.mem_cons_self)
      have z1 := C.2.2.2.2.2.2.1.1
      have z2 := C.2.2.2.2.2.2.1.2
      have hroom : ((t.map (pm_tv θ)).map fun v => v.category).sum ≤ 8 := by rw [pm_wd_tv]; exact c2
      refine va_mmin (x := Int32.ofInt a) (y := Int32.ofInt b) C.1 C.2.1 (C.2.2.1.trans hL.1.1.symm) C.2.2.2.2.1 (C.2.2.2.1 _ hl) (C.2.2.2.1 _ hst) (C.2.2.2.1 _ hin) (C.2.2.2.1 _ hco) (by omega) (by omega) C.2.2.2.2.2.2.2.1.1 C.2.2.2.2.2.2.2.1.2 hd ?_
      have ev : (if Int32.ofInt b < Int32.ofInt a then Int32.ofInt b else Int32.ofInt a) = Int32.ofInt (min a b) := by
        by_cases q : b < a
        · rw [if_pos ((pm_lt hb ha).mpr q)]
          congr 1
          omega
        · rw [if_neg (fun z => q ((pm_lt hb ha).mp z))]
          congr 1
          omega
      rw [ev]
      exact hG _ _ _ _ _ _ _ h p e RM s m args below meth c cells slots Q C H locs ls hP hS hL (pm_okc (v := .inl (min a b)) (show pm_r32 (min a b) by omega) (fun u hu => hk u (List.mem_cons_of_mem _ (List.mem_cons_of_mem _ hu)))) hR
  · cases h
theorem k_max {idx : Nat} (hd : decode (pm_cc y) pc = .ok (.invokestatic idx, 3)) (hn : pc + 3 = nx) (hl : Cond.methodLink (pm_nm y).cls idx Lib.Math.max.name ∈ pm_TB) (hst : Cond.static Lib.Math.max.name ∈ pm_TB) (hin : Cond.initialized "java/lang/Math" ∈ pm_TB) (hco : Cond.code Lib.Math.max.name Lib.Math.max.code 2 (some .int) ∈ pm_TB) : pm_Sd θ l env y pc (s_max nx) := by
  intro G hG d lo sk I res h
  subst hn
  unfold s_max at h
  split at h
  · rename_i b a t
    cases hcc : (Nat.ble 1 d && Nat.ble (pm_wd t) 8) with
    | false => rw [hcc] at h; cases h
    | true =>
      rw [hcc] at h
      rw [Bool.and_eq_true] at hcc
      have c1 := Nat.le_of_ble_eq_true hcc.1
      have c2 := Nat.le_of_ble_eq_true hcc.2
      intro p e RM s m args below meth c cells slots Q C H locs ls hP hS hL hk hR
      have hb : pm_r32 b := hk (.inl b) List.mem_cons_self
      have ha : pm_r32 a := hk (.inl a) (List.mem_cons_of_mem _ List.mem_cons_self)
      have z1 := C.2.2.2.2.2.2.1.1
      have z2 := C.2.2.2.2.2.2.1.2
      have hroom : ((t.map (pm_tv θ)).map fun v => v.category).sum ≤ 8 := by rw [pm_wd_tv]; exact c2
      refine va_mmax (x := Int32.ofInt a) (y := Int32.ofInt b) C.1 C.2.1 (C.2.2.1.trans hL.1.1.symm) C.2.2.2.2.1 (C.2.2.2.1 _ hl) (C.2.2.2.1 _ hst) (C.2.2.2.1 _ hin) (C.2.2.2.1 _ hco) (by omega) (by omega) C.2.2.2.2.2.2.2.1.1 C.2.2.2.2.2.2.2.1.2 hd ?_
      have ev : (if Int32.ofInt a < Int32.ofInt b then Int32.ofInt b else Int32.ofInt a) = Int32.ofInt (max a b) := by
        by_cases q : a < b
        · rw [if_pos ((pm_lt ha hb).mpr q)]
          congr 1
          omega
        · rw [if_neg (fun z => q ((pm_lt ha hb).mp z))]
          congr 1
          omega
      rw [ev]
      exact hG _ _ _ _ _ _ _ h p e RM s m args below meth c cells slots Q C H locs ls hP hS hL (pm_okc (v := .inl (max a b)) (show pm_r32 (max a b) by omega) (fun u hu => hk u (List.mem_cons_of_mem _ (List.mem_cons_of_mem _ hu)))) hR
  · cases h
theorem k_copy {idx : Nat} (hE : pm_EW θ env) (hd : decode (pm_cc y) pc = .ok (.invokestatic idx, 3)) (hn : pc + 3 = nx) (hl : Cond.methodLink (pm_nm y).cls idx arraycopyName ∈ pm_TB) (hna : Cond.native arraycopyName ∈ pm_TB) (hst : Cond.static arraycopyName ∈ pm_TB) (hin : Cond.initialized "java/lang/System" ∈ pm_TB) : pm_Sd θ l env y pc (s_copy nx) := by
  intro G hG d lo sk I res h
  subst hn
  unfold s_copy at h
  split at h
  · rename_i n dp r sp q t
    cases hcc : (Nat.ble 1 d && Nat.ble (pm_wd t) 8 && Nat.beq (env.1 r) 8 && Nat.beq (env.1 q) 8) with
    | false => rw [hcc] at h; cases h
    | true =>
      rw [hcc] at h
      dsimp only [cond_true] at h
      rw [Bool.and_eq_true, Bool.and_eq_true, Bool.and_eq_true] at hcc
      obtain ⟨⟨⟨c1, c2⟩, c3⟩, c4⟩ := hcc
      have c1 := Nat.le_of_ble_eq_true c1
      have c2 := Nat.le_of_ble_eq_true c2
      split at h
      · rename_i g0
        split at h
        · rename_i g1
          split at h
          · rename_i g2
            intro p e RM s m args below meth c cells slots Q C H locs ls hP hS hL hk hR
            have k1 : pm_r32 n := hk (.inl n) (by simp)
            have k2 : pm_r32 dp := hk (.inl dp) (by simp)
            have k3 : pm_r32 sp := hk (.inl sp) (by simp)
            have hkt : ∀ v ∈ t, pm_ok v := fun v hv => hk v (by simp [hv])
            have z1 := C.2.2.2.2.2.2.1.1
            have z2 := C.2.2.2.2.2.2.1.2
            have hroom : ((t.map (pm_tv θ)).map fun v => v.category).sum ≤ 8 := by rw [pm_wd_tv]; exact c2
            have hnf : nativeFrameWords "java/lang/System" "arraycopy" 5 + 11 ≤ 52 := by decide +kernel
            obtain ⟨r0, rb, he⟩ := pm_arI (I := I) hE c3
            obtain ⟨q0, qb, hf⟩ := pm_arI (I := I) hE c4
            have l1 := (hE.2.1 r).2
            have l2 := (hE.2.1 q).2
            simp only [List.map_cons, pm_tv_ref θ r0, pm_tv_ref θ q0]
            refine va_copyi (D := pm_D θ) (cl := vwCl) (tys := pm_tys θ) (ty := .int) (sp := Int32.ofInt sp) (dp := Int32.ofInt dp) (n := Int32.ofInt n) C.1 C.2.1 (C.2.2.1.trans hL.1.1.symm) C.2.2.2.2.1 (C.2.2.2.1 _ hl) (C.2.2.2.1 _ hna) (C.2.2.2.1 _ hst) (C.2.2.2.1 _ hin) C.2.2.2.2.2.1 hP.1 hP.2.1 hS (q - 3) (r - 3) 0 0 hf he rfl rfl rfl (by rw [pm_lt0 k3]; omega) (by rw [pm_lt0 k2]; omega) (by rw [pm_lt0 k1]; omega) (by rw [pm_clamp k3, pm_clamp k1]; omega) (by rw [pm_clamp k2, pm_clamp k1]; omega) (fun _ _ => rfl) (by omega) (by omega) hd (fun H1 locs1 a1 a2 a3 => ?_)
            have hoff : ∀ z, z ≠ r → ∀ j, pm_cp I q sp r dp n z j = I z j := fun z hz j => by simp [pm_cp, hz]
            have hcell : pm_cell θ env (pm_cp I q sp r dp n) r = .inl (θ.2.1.1, (env.2.1 r).toNat, .inl (va_cpy (fun j => Int32.ofInt (I q j)) (fun j => Int32.ofInt (I r j)) (Int32.ofInt sp).toNatClampNeg (Int32.ofInt dp).toNatClampNeg (Int32.ofInt n).toNatClampNeg)) := by
              unfold pm_cell
              rw [if_pos (Nat.eq_of_beq_eq_true c3)]
              congr 3
              congr 1
              funext j
              rw [pm_clamp k1, pm_clamp k2, pm_clamp k3]
              unfold va_cpy pm_cp
              by_cases hj : dp.toNat ≤ j ∧ j < dp.toNat + n.toNat
              · rw [if_pos hj, if_pos ⟨rfl, by omega, by omega⟩]
                congr 2
                omega
              · rw [if_neg hj, if_neg (fun z => hj (by omega))]
            rw [pm_ws_set θ env (I' := pm_cp I q sp r dp n) rb hoff hcell] at a1 a2
            refine hG _ _ _ _ _ _ _ h p e RM s m args below meth c cells slots Q C H1 locs1 ls ⟨a1, a2, fun z j => ?_⟩ a3 hL hkt hR
            unfold pm_cp
            split
            · exact hP.2.2 _ _
            · exact hP.2.2 _ _
          · cases h
        · cases h
      · cases h
  · cases h
end CALLS
