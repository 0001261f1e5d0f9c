/-! THE CLAIM OUT OF ONE WALK OF THE LAW'S BODY. Your part is whole_start (and what it stands on); all else here is the same for every law, but numbers. -/
def R_law : String := "TurnBoardsLaw"
def lw_P (b : Addr) (xs : List Int32) (args : Array Value) (s : State) : Prop := args = #[.ref b] ∧ s.IntsAt b xs ∧ xs.length ≤ 2560 ∧ (Jvm.Cond.and given_1 narrow_1).before args s = true
def lw_Q (_ : Array Value) (s : State) (o : Outcome) (t : State) : Prop := o = .returned (some (.int 1)) ∧ Framed s o t [] 600000 7302250
def lw_Z (below : List Frame) (a : Array Value) (s : State) : State → Prop := fun t => ∃ o, t.status = .running ∧ Ended t below o ∧ lw_Q a s o t
/-- the law's own end, with 1 on the stack, nothing written that was there before, its room as the claim has it -/
theorem lw_ret {p : Program} {l : Launch} {e : Env} {s : State} {m : MethodId} {below : List Frame} {meth : Method} {c : Code} {b : Nat} (hx : p.tables.exec = Jvm.exec) (hb : c.code = code) (hr : meth.sig.returnType = ret) (hlocks : meth.locks = false) {pc : Nat} {H : Heap} {ls : Array Slot} (hdg : decode code pc = .ok (.ireturn, 1)) : W p l e room_1 s m #[Value.ref b] below meth c H [] 600000 7302250 (lw_Z below #[Value.ref b] s) (F0 m pc ls [.int 1]) := by
  intro T hT X
  obtain ⟨fs, hret, hrun, hended, hW, hframe⟩ := X.leave (v := some (.int 1)) (hlocks := hlocks) (fun h => by rw [hr] at h; cases h)
  have hmeth' : T.vm.method? m = some meth := X.method'
  refine ⟨T.setFrames fs, ?_, .returned (some (.int 1)), hrun, hended, rfl, ⟨_, rfl⟩, hW, hframe⟩
  jvm_step X.here [X.here.top, hx, hb, hdg, hmeth', hr, ret, narrow_b1]
  (try refine ⟨rfl, ?_⟩); (try refine ⟨rfl, ?_⟩)
  first | (intro acts; rw [hret _ acts rfl rfl rfl]) | rw [hret _ _ rfl rfl rfl]
  exact Steps.refl _
/-- what holds at the law's entry: the machine, the code, the tables' words (any of lw_tbl by 'hts w (by decide +kernel)'), the script of L ints xs at the cell b, what the Statement gives of the start (any of its parts by flat_of_before) -/
def lw_At (p : Program) (s : State) (m : MethodId) (meth : Method) (c : Code) (b L : Nat) (xs : Nat → Int32) : Prop :=
  p.tables.exec = Jvm.exec ∧ c.code = code ∧ meth.sig.returnType = ret ∧ c.maxLocals = 4 ∧ s.vm.findClass R_law = some m.cls ∧ (∀ w ∈ lw_tbl, w.before #[Value.ref b] s = true) ∧ va_X b L xs s s.heap ∧ b < s.heap.size ∧ meth.locks = false ∧ (Jvm.Cond.and given_1 narrow_1).before #[Value.ref b] s = true
theorem wx_W : Cond.arrayOver (.object RX5) ∈ lw_tbl := List.mem_of_getElem? (i := 173) (by decide +kernel)
theorem wx_S : Cond.arrayOver (.object RX3) ∈ lw_tbl := List.mem_of_getElem? (i := 194) (by decide +kernel)
theorem wx_A : Cond.arrayOver (.array .int) ∈ lw_tbl := List.mem_of_getElem? (i := 181) (by decide +kernel)
theorem wx_Board : Cond.methodLinkNest RX6 18 ⟨RX1, "<init>", "()V"⟩ "TurnBoards" ∈ lw_tbl := List.mem_of_getElem? (i := 128) (by decide +kernel)
theorem wx_Acts : Cond.methodLinkNest RX6 31 ⟨RX0, "<init>", "()V"⟩ "TurnBoards" ∈ lw_tbl := List.mem_of_getElem? (i := 176) (by decide +kernel)
theorem wx_Sums : Cond.methodLinkNest RX6 44 ⟨RX4, "<init>", "()V"⟩ "TurnBoards" ∈ lw_tbl := List.mem_of_getElem? (i := 197) (by decide +kernel)
theorem wx_Walk : Cond.methodLinkNest RX6 49 ⟨RX5, "<init>", "()V"⟩ "TurnBoards" ∈ lw_tbl := List.mem_of_getElem? (i := 222) (by decide +kernel)
theorem wx_Sheet : Cond.methodLinkNest RX6 50 ⟨RX3, "<init>", "()V"⟩ "TurnBoards" ∈ lw_tbl := List.mem_of_getElem? (i := 249) (by decide +kernel)
theorem wx_sf : Cond.methodLinkNest RX6 304 ⟨RX4, "sumFrom", "(IJLTurnBoards$Sums;[LTurnBoards$Walk;ILTurnBoards$Group;)J"⟩ "TurnBoards" ∈ lw_tbl := List.mem_of_getElem? (i := 578) (by decide +kernel)
theorem wl_Tb : Cond.methodLink R_law 9 ⟨RX6, "<init>", "()V"⟩ ∈ pm_TB := pm_TB_at 58 (by decide +kernel) (by decide +kernel)
theorem wl_Model : Cond.methodLink R_law 12 ⟨RX7, "<init>", "()V"⟩ ∈ pm_TB := pm_TB_at 658 (by decide +kernel) (by decide +kernel)
theorem wk_Tb : Cond.classLink R_law 7 RX6 ∈ pm_TB := pm_TB_at 56 (by decide +kernel) (by decide +kernel)
theorem wk_Model : Cond.classLink R_law 10 RX7 ∈ pm_TB := pm_TB_at 656 (by decide +kernel) (by decide +kernel)
theorem dl_0 : decode code 0 = .ok (.new 7, 3) := by decide +kernel
theorem dl_3 : decode code 3 = .ok (.dup, 1) := by decide +kernel
theorem dl_4 : decode code 4 = .ok (.invokespecial 9, 3) := by decide +kernel
theorem dl_7 : decode code 7 = .ok (.astore_n 1, 1) := by decide +kernel
theorem dl_8 : decode code 8 = .ok (.new 10, 3) := by decide +kernel
theorem dl_11 : decode code 11 = .ok (.dup, 1) := by decide +kernel
theorem dl_12 : decode code 12 = .ok (.invokespecial 12, 3) := by decide +kernel
theorem dl_15 : decode code 15 = .ok (.astore_n 2, 1) := by decide +kernel
theorem dl_16 : decode code 16 = .ok (.iconst 0, 1) := by decide +kernel
theorem dl_17 : decode code 17 = .ok (.istore_n 3, 1) := by decide +kernel
theorem kd_f : ∀ r, r < 100 → (pm_kd r ≤ 12 → 3 ≤ r) ∧ (pm_kd r = 50 → r = 1 ∨ r = 2) := by decide +kernel
theorem kd_hi {r : Nat} (h : 100 ≤ r) : pm_kd r = 99 := by
  unfold pm_kd
  rw [Nat.ble_eq_true_of_le h]
  rfl
theorem ln_hi {r : Nat} {L : Int} (h : 100 ≤ r) : pm_ln L r = 0 := by
  unfold pm_ln
  rw [Nat.ble_eq_true_of_le h]
  rfl
theorem ln_0 : ∀ r, r < 100 → pm_r32 (pm_ln 0 r) ∧ 0 ≤ pm_ln 0 r := by decide +kernel
theorem ln_s (L : Int) : ∀ r, r < 100 → r ≠ 2 → pm_ln L r = pm_ln 0 r := by
  intro r hr h2
  match r, hr, h2 with
  | 0, _, _ => rfl
  | 1, _, _ => rfl
  | 2, _, h => exact absurd rfl h
  | 3, _, _ => rfl
  | 4, _, _ => rfl
  | 5, _, _ => rfl
  | 6, _, _ => rfl
  | 7, _, _ => rfl
  | 8, _, _ => rfl
  | 9, _, _ => rfl
  | 10, _, _ => rfl
  | 11, _, _ => rfl
  | 12, _, _ => rfl
  | 13, _, _ => rfl
  | 14, _, _ => rfl
  | 15, _, _ => rfl
  | 16, _, _ => rfl
  | 17, _, _ => rfl
  | 18, _, _ => rfl
  | 19, _, _ => rfl
  | 20, _, _ => rfl
  | 21, _, _ => rfl
  | 22, _, _ => rfl
  | 23, _, _ => rfl
  | 24, _, _ => rfl
  | 25, _, _ => rfl
  | 26, _, _ => rfl
  | 27, _, _ => rfl
  | 28, _, _ => rfl
  | 29, _, _ => rfl
  | 30, _, _ => rfl
  | 31, _, _ => rfl
  | 32, _, _ => rfl
  | 33, _, _ => rfl
  | 34, _, _ => rfl
  | 35, _, _ => rfl
  | 36, _, _ => rfl
  | 37, _, _ => rfl
  | 38, _, _ => rfl
  | 39, _, _ => rfl
  | 40, _, _ => rfl
  | 41, _, _ => rfl
  | 42, _, _ => rfl
  | 43, _, _ => rfl
  | 44, _, _ => rfl
  | 45, _, _ => rfl
  | 46, _, _ => rfl
  | 47, _, _ => rfl
  | 48, _, _ => rfl
  | 49, _, _ => rfl
  | 50, _, _ => rfl
  | 51, _, _ => rfl
  | 52, _, _ => rfl
  | 53, _, _ => rfl
  | 54, _, _ => rfl
  | 55, _, _ => rfl
  | 56, _, _ => rfl
  | 57, _, _ => rfl
  | 58, _, _ => rfl
  | 59, _, _ => rfl
  | 60, _, _ => rfl
  | 61, _, _ => rfl
  | 62, _, _ => rfl
  | 63, _, _ => rfl
  | 64, _, _ => rfl
  | 65, _, _ => rfl
  | 66, _, _ => rfl
  | 67, _, _ => rfl
  | 68, _, _ => rfl
  | 69, _, _ => rfl
  | 70, _, _ => rfl
  | 71, _, _ => rfl
  | 72, _, _ => rfl
  | 73, _, _ => rfl
  | 74, _, _ => rfl
  | 75, _, _ => rfl
  | 76, _, _ => rfl
  | 77, _, _ => rfl
  | 78, _, _ => rfl
  | 79, _, _ => rfl
  | 80, _, _ => rfl
  | 81, _, _ => rfl
  | 82, _, _ => rfl
  | 83, _, _ => rfl
  | 84, _, _ => rfl
  | 85, _, _ => rfl
  | 86, _, _ => rfl
  | 87, _, _ => rfl
  | 88, _, _ => rfl
  | 89, _, _ => rfl
  | 90, _, _ => rfl
  | 91, _, _ => rfl
  | 92, _, _ => rfl
  | 93, _, _ => rfl
  | 94, _, _ => rfl
  | 95, _, _ => rfl
  | 96, _, _ => rfl
  | 97, _, _ => rfl
  | 98, _, _ => rfl
  | 99, _, _ => rfl
  | n + 100, h, _ => exact absurd h (by omega)
theorem un_r (i : Int) : pm_r32 (pm_units i) := by
  have : ∀ k, k < 16 → pm_r32 ([0, 1, 2, 3, 1, 4, 3, 6, 2, 7, 4, 1, 3, 2, 5, 4].getD k 0) := by decide +kernel
  unfold pm_units
  by_cases h : i.toNat < 16
  · exact this _ h
  · rw [List.getD_eq_getElem?_getD, List.getElem?_eq_none (by show 16 ≤ _; omega)]
    show pm_r32 0
    omega
theorem f_EW {θ : pm_TH} {X : pm_XT} (hn : pm_nn θ = 97) (hX : ∀ j, pm_r32 (X.1 j)) (hL : 0 ≤ X.2 ∧ X.2 ≤ 2560) : pm_EW θ (pm_env X) := by
  refine ⟨fun r h => ?_, fun r => ?_, fun r h => ?_, fun r j h => ?_⟩
  · have h : pm_kd r ≤ 12 := h
    by_cases z : r < 100
    · exact ⟨(kd_f r z).1 h, by omega⟩
    · rw [kd_hi (by omega)] at h
      omega
  · show pm_r32 (pm_ln X.2 r) ∧ 0 ≤ pm_ln X.2 r
    by_cases z : r < 100
    · by_cases y : r = 2
      · subst y
        show pm_r32 X.2 ∧ 0 ≤ X.2
        omega
      · rw [ln_s X.2 r z y]
        exact ln_0 r z
    · rw [ln_hi (by omega)]
      omega
  · have h : pm_kd r = 50 := h
    by_cases z : r < 100
    · have := (kd_f r z).2 h
      omega
    · rw [kd_hi (by omega)] at h
      omega
  · have h : pm_kd r = 50 := h
    show pm_r32 (pm_xv X.1 r j)
    by_cases z : r < 100
    · rcases (kd_f r z).2 h with rfl | rfl
      · exact un_r j
      · exact hX j
    · rw [kd_hi (by omega)] at h
      omega
set_option maxHeartbeats 4000000 in
set_option maxRecDepth 100000 in
theorem whole_start {p : Program} {e : Env} {s : State} {m : MethodId} {below : List Frame} {meth : Method} {c : Code} (l : Launch) {b L : Nat} {xs : Nat → Int32} (hL : L ≤ 2560) (C0 : lw_At p s m meth c b L xs) : W p l e room_1 s m #[Value.ref b] below meth c s.heap [] 0 0 (lw_Z below #[Value.ref b] s) (entryFrame m ([Value.ref b] : List Value).toArray 4) := by
  obtain ⟨hx, hb, hr, hml, hown, hts0, hX, hbl, hlocks, hgv⟩ := C0
  have hts : ∀ w ∈ pm_TB, w.before #[Value.ref b] s = true := fun w hw => hts0 w (List.mem_filter.mp hw).1
  obtain ⟨a1, ha1, ha2, ha3⟩ := un_X hgv
  have hAW : va_AO RX5 s := va_AO.of (hts0 _ wx_W)
  have hAS : va_AO RX3 s := va_AO.of (hts0 _ wx_S)
  have hAA : ct_AA s := hts0 _ wx_A
  have hNw := va_Nw.of rfl (hts0 _ wx_sf)
  have hnBoard := va_Nw.of rfl (hts0 _ wx_Board)
  have hnActs := va_Nw.of rfl (hts0 _ wx_Acts)
  have hnSums := va_Nw.of rfl (hts0 _ wx_Sums)
  have hnWalk := va_Nw.of rfl (hts0 _ wx_Walk)
  have hnSheet := va_Nw.of rfl (hts0 _ wx_Sheet)
  obtain ⟨D, τ, hK⟩ := k_start hts hAW hAS hAA
  have hZ : va_Z RX2 "UNITS" "[I" (.ref a1) (fun q => s.heap.size ≤ q) s s.heap := va_Zof (hts0 _ w_lays) (hts _ wn_Group) ha1 (fun a h z => by have z : s.heap.size ≤ a := z; omega)
  have hP : va_P D vwCl [] s.heap := fun k q h => by cases h
  have hD : va_D (fun q => s.heap.size ≤ q) [] := ⟨fun i j p q h => (by cases h), fun k q h => (by cases h)⟩
  have hS : va_S (fun q => s.heap.size ≤ q) s.heap s.heap [] := va_S.rf
  have hA : ∀ q, s.heap.size ≤ q → (fun q => s.heap.size ≤ q) q := fun q h => h
  have hl := lv_entry ([.ref b]) (n := 4) (Nat.le_of_ble_eq_true rfl)
  rw [lg_entry_eq]
  generalize (lg_sl ([.ref b]) ++ List.replicate (4 - (lg_sl ([.ref b])).length) Slot.unset).toArray = ls at hl ⊢
  have hl : lv_has ls 4 [(0, .ref b)] := hl
  refine z_new (own := R_law) (C := RX6) (T := TX6) (N := 7) (ci := 6) (fs := [.null, .null, .null, .int 0, .null, .null, .null]) hx hb hts wi_6 tyX6 tyX6_ok hown wk_Tb wt_Tb wn_Tb hK hP hD hS hA rfl (by decide) (Nat.le_of_ble_eq_true rfl) (Nat.le_of_ble_eq_true rfl) dl_0 (fun t0 H hq1 hq2 hP hD hS => ?_)
  refine W.widen (k := 1) (n := 7) (by omega) (by omega) ?_
  refine lv_dup hx hb dl_3 rfl ?_
  refine z_callI (q := t0) hx hb hml hl.1 hown hts (c_Tb l D τ t0 H.size) wc_Tb rfl rfl wl_Tb wn_Tb ws_Tb rfl (by decide +kernel) ⟨Nat.le_of_ble_eq_true rfl, Nat.le_of_ble_eq_true rfl⟩ eb_T (fun U hU hW => ⟨by omega, ⟨s.heap.size, a1, by omega, by rw [hU]; exact (hZ.kept (fun a ha hq => hS.2.1 a ha hq)).moved hW.alike⟩, hNw.warmM hW, hAW.moved hW.alike, hAS.moved hW.alike, hAA.moved hW.alike, hnBoard.warmM hW, hnActs.warmM hW, hnSums.warmM hW, hnWalk.warmM hW, hnSheet.warmM hW⟩) hK hP hD hS hA (Nat.le_of_ble_eq_true rfl) dl_4 ⟨Nat.le_of_ble_eq_true rfl, Nat.le_of_ble_eq_true rfl⟩ (fun u H locs hpu hP hD hS => ?_)
  refine W.widen (k := 100) (n := 1000) (by omega) (by omega) ?_
  refine lv_astore_n (nL := 4) hx hb dl_7 rfl hl (by decide) rfl (fun ls hl => ?_)
  have hl : lv_has ls 4 [(1, .ref t0), (0, .ref b)] := hl
  refine z_new (own := R_law) (C := RX7) (T := TX7) (N := 27) (ci := 7) (fs := [.int 0, .null, .null, .int 0, .int 0, .null, .null, .null, .int 0, .null, .null, .null, .null, .null, .int 0, .null, .null, .null, .null, .null, .null, .null, .null, .null, .null, .null, .null]) hx hb hts wi_7 tyX7 tyX7_ok hown wk_Model wt_Model wn_Model hK hP hD hS hA rfl (by decide) (Nat.le_of_ble_eq_true rfl) (Nat.le_of_ble_eq_true rfl) dl_8 (fun m0 H hm1 hm2 hP hD hS => ?_)
  refine W.widen (k := 101) (n := 1027) (by omega) (by omega) ?_
  refine lv_dup hx hb dl_11 rfl ?_
  refine z_callI (q := m0) hx hb hml hl.1 hown hts (c_Model l D τ m0 H.size) wc_Model rfl rfl wl_Model wn_Model ws_Model rfl (by decide +kernel) ⟨Nat.le_of_ble_eq_true rfl, Nat.le_of_ble_eq_true rfl⟩ eb_0 (fun _ _ _ => trivial) hK hP hD hS hA (Nat.le_of_ble_eq_true rfl) dl_12 ⟨Nat.le_of_ble_eq_true rfl, Nat.le_of_ble_eq_true rfl⟩ (fun v H locs hpv hP hD hS => ?_)
  refine W.widen (k := 200) (n := 2000) (by omega) (by omega) ?_
  rw [show m0 = v 0 from hpv.symm]
  refine lv_astore_n (nL := 4) hx hb dl_15 rfl hl (by decide) rfl (fun ls hl => ?_)
  have hl : lv_has ls 4 [(2, .ref (v 0)), (1, .ref t0), (0, .ref b)] := hl
  refine lv_iconst (v := 0) hx hb dl_16 (by decide) ?_
  refine lv_istore_n (nL := 4) hx hb dl_17 rfl hl (by decide) rfl (fun ls hl => ?_)
  have hl : lv_has ls 4 [(3, .int 0), (2, .ref (v 0)), (1, .ref t0), (0, .ref b)] := hl
  -- the pure machine takes over
  have hr32 : ∀ j, pm_r32 ((xs (Int.toNat j)).toInt) := fun j => pm_toI_r _
  generalize hXe : ((fun i => (xs (Int.toNat i)).toInt, (L : Int)) : pm_XT) = X
  have hX1 : ∀ j, pm_r32 (X.1 j) := by rw [← hXe]; exact hr32
  have hX2 : X.2 = (L : Int) := by rw [← hXe]
  obtain ⟨uf, ⟨j3, j5, j6, j7, j8⟩, ur⟩ := hpu
  obtain ⟨J, hrun⟩ := L_loop (X := X) (by omega) hX1 L 0 (fI u.1.2) (by omega) (Int.le_refl 0) (by omega) (fI_Rl j3 j5 j6 j7 j8)
  obtain ⟨gP, gD⟩ := f_ws (D := D) (τ := τ) (a1 := a1) (b := b) (t0 := t0) (bs := s.heap.size) (u := u) (v := v) (X := X) hP hD
  have hEW : pm_EW (fTh D τ a1 b t0 s.heap.size u v) (pm_env X) := f_EW rfl hX1 (by omega)
  have hXC : pm_XC (fTh D τ a1 b t0 s.heap.size u v) (pm_env X) s s.heap := by
    refine ⟨fun r h => ?_, hZ, hNw⟩
    have h : pm_kd r = 50 := h
    have hr100 : r < 100 := by
      by_cases z : r < 100
      · exact z
      · rw [kd_hi (by omega)] at h
        omega
    rcases (kd_f r hr100).2 h with rfl | rfl
    · exact ⟨ha2, ha3⟩
    · refine ⟨hbl, ?_⟩
      show va_X b (X.2).toNat (fun j => Int32.ofInt (X.1 j)) s s.heap
      have e1 : (X.2).toNat = L := by omega
      have e2 : (fun j : Nat => Int32.ofInt (X.1 j)) = xs := by
        rw [← hXe]
        funext j
        show Int32.ofInt (xs (Int.toNat (j : Int))).toInt = xs j
        rw [pm_toI, Int.toNat_natCast]
      rw [e1, e2]
      exact hX
  have hLR : pm_LR (fTh D τ a1 b t0 s.heap.size u v) [some (.inr (.inr 2)), some (.inr (.inr 3)), some (.inr (.inr 77)), some (.inl 0)] ls 4 := by
    refine ⟨lv_sub hl [3, 2, 1, 0] rfl, fun j w hw => ?_⟩
    match j, hw with
    | 0, hw => cases hw; trivial
    | 1, hw => cases hw; trivial
    | 2, hw => cases hw; trivial
    | 3, hw => cases hw; show pm_r32 0; omega
    | n + 4, hw => cases hw
  refine pm_X_gd (θ := fTh D τ a1 b t0 s.heap.size u v) (l := l) hEW 144 17 18 _ [] _ _ hrun p e room_1 s m #[Value.ref b] below meth c 200 2000 _ ⟨hx, hb, hml, hts, hown, hK, ⟨Nat.le_of_ble_eq_true rfl, Nat.le_of_ble_eq_true rfl⟩, ⟨Nat.le_of_ble_eq_true rfl, Nat.le_of_ble_eq_true rfl⟩, Nat.le_refl _, hXC⟩ H locs ls ⟨gP, gD, fI_r ur⟩ hS hLR (fun _ h => by cases h) ?_
  intro pc ls H locs kP kS kr kd
  refine va_forget (fun q hq => kS.2.2 q hq) ?_
  refine W.widen (k := 600000) (n := 7302250) (by omega) (by omega) ?_
  exact lw_ret hx hb hr hlocks kd
