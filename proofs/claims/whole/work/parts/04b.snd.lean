/-! WHAT THE PURE MACHINE HAS TO DO WITH THE MACHINE -/
theorem pm_toInt {a : Int} (h : pm_r32 a) : (Int32.ofInt a).toInt = a := Int32.toInt_ofInt_of_le (by omega) (by omega)
theorem pm_toInt64 {a : Int} (h : pm_r64 a) : (Int64.ofInt a).toInt = a := Int64.toInt_ofInt_of_le (by omega) (by omega)
theorem pm_w64_of (a : Int) : Int64.ofInt (pm_w64 a) = Int64.ofInt a := by
  apply Int64.toInt_inj.mp
  rw [Int64.toInt_ofInt, Int64.toInt_ofInt]
  unfold pm_w64
  exact Int.bmod_bmod
theorem pm_i2l_of {a : Int} (h : pm_r32 a) : (Int32.ofInt a).toInt64 = Int64.ofInt a := by
  apply Int64.toInt_inj.mp
  rw [Int32.toInt_toInt64, pm_toInt h, pm_toInt64 (by omega)]
theorem pm_w64_r (a : Int) : pm_r64 (pm_w64 a) := by
  unfold pm_w64 pm_r64
  have h1 := Int.le_bmod (x := a) (m := 18446744073709551616) (by decide)
  have h2 := Int.bmod_lt (x := a) (m := 18446744073709551616) (by decide)
  omega
theorem pm_clamp {a : Int} (h : pm_r32 a) : (Int32.ofInt a).toNatClampNeg = a.toNat := by
  rw [← Int32.toNat_toInt, pm_toInt h]
theorem pm_lt {a b : Int} (ha : pm_r32 a) (hb : pm_r32 b) : Int32.ofInt a < Int32.ofInt b ↔ a < b := by
  rw [Int32.lt_iff_toInt_lt, pm_toInt ha, pm_toInt hb]
theorem pm_lt0 {a : Int} (ha : pm_r32 a) : Int32.ofInt a < 0 ↔ a < 0 := pm_lt (b := 0) ha (by omega)
theorem pm_gt0 {a : Int} (ha : pm_r32 a) : 0 < Int32.ofInt a ↔ 0 < a := pm_lt (a := 0) (by omega) ha
theorem pm_eq {a b : Int} (ha : pm_r32 a) (hb : pm_r32 b) : Int32.ofInt a = Int32.ofInt b ↔ a = b := by
  rw [← Int32.toInt_inj, pm_toInt ha, pm_toInt hb]
theorem pm_eq0 {a : Int} (ha : pm_r32 a) : Int32.ofInt a = 0 ↔ a = 0 := pm_eq (b := 0) ha (by omega)
theorem pm_in {i : Int} {n : Int} (hi : pm_r32 i) (h : 0 ≤ i ∧ i < n) : vp_in (Int32.ofInt i) n.toNat := by
  unfold vp_in
  rw [pm_lt0 hi, pm_clamp hi]
  omega
theorem pm_tdiv {a b : Int} (ha : 0 ≤ a) (hb : 0 < b) : a.tdiv b = a / b := Int.tdiv_eq_ediv_of_nonneg ha
theorem pm_idiv {a b : Int} (ha : pm_r32 a) (hb : pm_r32 b) (h : 0 ≤ a ∧ 0 < b) : Int32.ofInt a / Int32.ofInt b = Int32.ofInt (a / b) := by
  rw [← pm_tdiv h.1 h.2]
  exact (Int32.ofInt_tdiv ha.1 ha.2 hb.1 hb.2).symm
theorem pm_irem {a b : Int} (ha : pm_r32 a) (hb : pm_r32 b) (h : 0 ≤ a ∧ 0 < b) : Int32.ofInt a - Int32.ofInt a / Int32.ofInt b * Int32.ofInt b = Int32.ofInt (a % b) := by
  rw [pm_idiv ha hb h, ← Int32.ofInt_mul, ← Int32.ofInt_sub, Int.emod_def, Int.mul_comm (a / b) b]
theorem pm_ldiv {a b : Int} (ha : pm_r64 a) (hb : pm_r64 b) (h : 0 ≤ a ∧ 0 < b) : Int64.ofInt a / Int64.ofInt b = Int64.ofInt (a / b) := by
  rw [← pm_tdiv h.1 h.2]
  exact (Int64.ofInt_tdiv ha.1 ha.2 hb.1 hb.2).symm
theorem pm_lrem {a b : Int} (ha : pm_r64 a) (hb : pm_r64 b) (h : 0 ≤ a ∧ 0 < b) : Int64.ofInt a - Int64.ofInt a / Int64.ofInt b * Int64.ofInt b = Int64.ofInt (a % b) := by
  rw [pm_ldiv ha hb h, ← Int64.ofInt_mul, ← Int64.ofInt_sub, Int.emod_def, Int.mul_comm (a / b) b]
theorem pm_div_r {a b : Int} (h : 0 ≤ a ∧ 0 < b) : 0 ≤ a / b ∧ a / b ≤ a := ⟨Int.ediv_nonneg h.1 (by omega), Int.ediv_le_self b h.1⟩
theorem pm_mod_r {a b : Int} (h : 0 ≤ a ∧ 0 < b) : 0 ≤ a % b ∧ a % b < b := ⟨Int.emod_nonneg a (by omega), Int.emod_lt_of_pos a h.2⟩
theorem pm_toI (x : Int32) : Int32.ofInt x.toInt = x := Int32.ofInt_toInt x
theorem pm_toI_r (x : Int32) : pm_r32 x.toInt := ⟨Int32.le_toInt x, by have := Int32.toInt_lt x; omega⟩
/-- the world: the classes' numbers, those of the arrays' classes, the addresses, where the new cells begin, how many there are -/
abbrev pm_TH : Type := va_G × (ClassId × ClassId × ClassId × ClassId × ClassId) × (Nat → Nat) × Nat × Nat
abbrev pm_D (θ : pm_TH) : va_G := θ.1
abbrev pm_as (θ : pm_TH) : Nat → Nat := θ.2.2.1
abbrev pm_bs (θ : pm_TH) : Nat := θ.2.2.2.1
abbrev pm_nn (θ : pm_TH) : Nat := θ.2.2.2.2
abbrev pm_tys (θ : pm_TH) : List (ClassId × FieldType) := [(θ.2.1.1, .int), (θ.2.1.2.1, .boolean), (θ.2.1.2.2.1, .object RX3), (θ.2.1.2.2.2.1, .object RX5), (θ.2.1.2.2.2.2, .array .int)]
abbrev pm_A (θ : pm_TH) : Nat → Prop := fun q => pm_bs θ ≤ q
def pm_ra (θ : pm_TH) (q : Nat) : Option Nat := if q = 0 then none else some (pm_as θ q)
def pm_tv (θ : pm_TH) : pm_V → Value
  | .inl n => .int (Int32.ofInt n)
  | .inr (.inl x) => .long (Int64.ofInt x)
  | .inr (.inr q) => va_rf (pm_ra θ q)
def pm_ok : pm_V → Prop
  | .inl n => pm_r32 n
  | .inr (.inl x) => pm_r64 x
  | .inr (.inr _) => True
theorem pm_tv_ref (θ : pm_TH) {q : Nat} (h : q ≠ 0) : pm_tv θ (.inr (.inr q)) = .ref (pm_as θ q) := by
  simp [pm_tv, pm_ra, h, va_rf]
def pm_fl (θ : pm_TH) (env : pm_E) (I : pm_I) (r : Nat) : List Value := (pm_rs (env.1 r)).mapIdx (fun j b => bif b then va_rf (pm_ra θ (env.2.2.1 r j)) else .int (Int32.ofInt (I r j)))
def pm_cell (θ : pm_TH) (env : pm_E) (I : pm_I) (r : Nat) : va_E :=
  if env.1 r = 8 then .inl (θ.2.1.1, (env.2.1 r).toNat, .inl (fun j => Int32.ofInt (I r j)))
  else if env.1 r = 9 then .inl (θ.2.1.2.1, (env.2.1 r).toNat, .inl (fun j => Int32.ofInt (I r j)))
  else if env.1 r = 10 then .inl (θ.2.1.2.2.1, (env.2.1 r).toNat, .inr (.inr (.inr (.inr (fun j => pm_ra θ (env.2.2.1 r j))))))
  else if env.1 r = 11 then .inl (θ.2.1.2.2.2.1, (env.2.1 r).toNat, .inr (.inr (.inr (.inr (fun j => pm_ra θ (env.2.2.1 r j))))))
  else if env.1 r = 12 then .inl (θ.2.1.2.2.2.2, (env.2.1 r).toNat, .inr (.inr (.inr (.inr (fun j => pm_ra θ (env.2.2.1 r j))))))
  else .inr (env.1 r, pm_fl θ env I r)
def pm_ws (θ : pm_TH) (env : pm_E) (I : pm_I) : va_W := (List.range (pm_nn θ)).map (fun i => (pm_as θ (i + 3), pm_cell θ env I (i + 3)))
theorem pm_ws_at (θ : pm_TH) (env : pm_E) (I : pm_I) {r : Nat} (h : 3 ≤ r ∧ r < pm_nn θ + 3) : (pm_ws θ env I)[r - 3]? = some (pm_as θ r, pm_cell θ env I r) := by
  unfold pm_ws
  rw [List.getElem?_map, List.getElem?_range (by omega)]
  simp only [Option.map_some, show r - 3 + 3 = r by omega]
theorem pm_cell_off (θ : pm_TH) (env : pm_E) {I I' : pm_I} {r : Nat} (h : ∀ j, I' r j = I r j) : pm_cell θ env I' r = pm_cell θ env I r := by
  simp only [pm_cell, pm_fl, h]
theorem pm_ws_set (θ : pm_TH) (env : pm_E) {I I' : pm_I} {r : Nat} {e : va_E} (h : 3 ≤ r ∧ r < pm_nn θ + 3) (ho : ∀ q, q ≠ r → ∀ j, I' q j = I q j) (he : pm_cell θ env I' r = e) : (pm_ws θ env I).set (r - 3) (pm_as θ r, e) = pm_ws θ env I' := by
  apply List.ext_getElem?
  intro k
  by_cases hk : k = r - 3
  · subst hk
    rw [pm_ws_at θ env I' h, List.getElem?_set_self (by unfold pm_ws; rw [List.length_map, List.length_range]; omega), he]
  · rw [List.getElem?_set_ne (fun q => hk q.symm)]
    unfold pm_ws
    rw [List.getElem?_map, List.getElem?_map]
    by_cases hn : k < pm_nn θ
    · rw [List.getElem?_range hn]
      simp only [Option.map_some]
      rw [pm_cell_off θ env (ho (k + 3) (by omega))]
    · rw [List.getElem?_eq_none (by rw [List.length_range]; omega)]
      rfl
def pm_PR (θ : pm_TH) (env : pm_E) (I : pm_I) (H : Heap) : Prop := va_P (pm_D θ) vwCl (pm_ws θ env I) H ∧ va_D (pm_A θ) (pm_ws θ env I) ∧ ∀ r j, pm_r32 (I r j)
/-- the kinds are told of cells alone; lengths and what stands outside are ints -/
def pm_EW (θ : pm_TH) (env : pm_E) : Prop := (∀ r, env.1 r ≤ 12 → 3 ≤ r ∧ r < pm_nn θ + 3) ∧ (∀ r, pm_r32 (env.2.1 r) ∧ 0 ≤ env.2.1 r) ∧ (∀ r, env.1 r = 50 → r ≠ 0) ∧ ∀ r j, env.1 r = 50 → pm_r32 (env.2.2.2 r j)
/-- what stands outside the world -/
def pm_XC (θ : pm_TH) (env : pm_E) (s : State) (H : Heap) : Prop := (∀ r, env.1 r = 50 → pm_as θ r < pm_bs θ ∧ va_X (pm_as θ r) (env.2.1 r).toNat (fun j => Int32.ofInt (env.2.2.2 r j)) s H) ∧ va_Z RX2 "UNITS" "[I" (.ref (pm_as θ 1)) (pm_A θ) s H ∧ va_Nw (.methodLinkNest RX6 304 ⟨RX4, "sumFrom", "(IJLTurnBoards$Sums;[LTurnBoards$Walk;ILTurnBoards$Group;)J"⟩ "TurnBoards") s
theorem pm_XC.moved {θ : pm_TH} {env : pm_E} {s U : State} {H : Heap} (hW : s.WarmedH U.vm) (h : pm_XC θ env s H) : pm_XC θ env U H := ⟨fun r hr => ⟨(h.1 r hr).1, (h.1 r hr).2.moved hW.alike⟩, h.2.1.moved hW.alike, h.2.2.warmM hW⟩
theorem pm_XC.kept {θ : pm_TH} {env : pm_E} {s : State} {H H1 : Heap} {locs : List Loc} (hb : pm_bs θ ≤ H.size) (hS : va_S (pm_A θ) H H1 locs) (h : pm_XC θ env s H) : pm_XC θ env s H1 :=
  ⟨fun r hr => ⟨(h.1 r hr).1, (h.1 r hr).2.kept (hS.2.1 _ (Nat.lt_of_lt_of_le (h.1 r hr).1 hb) (fun q => absurd (h.1 r hr).1 (Nat.not_lt.mpr q)))⟩, h.2.1.kept (fun a ha hq => hS.2.1 a ha hq), h.2.2⟩
def pm_en (θ : pm_TH) (lo : pm_L) : List (Nat × Value) := (List.range lo.length).filterMap (fun j => (pm_at lo j).map (fun v => (j, pm_tv θ v)))
theorem pm_at_lt : ∀ {lo : pm_L} {j : Nat} {v : pm_V}, pm_at lo j = some v → j < lo.length
  | [], _, _, h => by cases h
  | a :: t, 0, _, _ => by simp
  | a :: t, n + 1, v, h => by
    have := pm_at_lt (lo := t) (j := n) (v := v) h
    simp; omega
theorem pm_en_mem {θ : pm_TH} {lo : pm_L} {q : Nat × Value} : q ∈ pm_en θ lo ↔ ∃ v, pm_at lo q.1 = some v ∧ q.2 = pm_tv θ v := by
  unfold pm_en
  rw [List.mem_filterMap]
  constructor
  · rintro ⟨j, -, h⟩
    obtain ⟨v, h1, h2⟩ := Option.map_eq_some_iff.mp h
    subst h2
    exact ⟨v, h1, rfl⟩
  · rintro ⟨v, h1, h2⟩
    refine ⟨q.1, List.mem_range.mpr (pm_at_lt h1), ?_⟩
    rw [h1, Option.map_some, ← h2]
def pm_LR (θ : pm_TH) (lo : pm_L) (ls : Array Slot) (nL : Nat) : Prop := lv_has ls nL (pm_en θ lo) ∧ ∀ j v, pm_at lo j = some v → pm_ok v
theorem pm_LR.get {θ : pm_TH} {lo : pm_L} {ls : Array Slot} {nL : Nat} (h : pm_LR θ lo ls nL) {j : Nat} {v : pm_V} (hv : pm_at lo j = some v) : ls[j]? = some (.val (pm_tv θ v)) := h.1.2.2 (j, pm_tv θ v) (pm_en_mem.mpr ⟨v, hv, rfl⟩)
theorem pm_LR.mono {θ : pm_TH} {lo lo' : pm_L} {ls : Array Slot} {nL : Nat} (h : pm_LR θ lo ls nL) (hs : ∀ j v, pm_at lo' j = some v → pm_at lo j = some v) : pm_LR θ lo' ls nL :=
  ⟨⟨h.1.1, h.1.2.1, fun q hq => by
    obtain ⟨v, h1, h2⟩ := pm_en_mem.mp hq
    rw [h2]
    exact h.get (hs _ _ h1)⟩, fun j v hv => h.2 j v (hs j v hv)⟩
theorem pm_st1_at : ∀ {lo : pm_L} {i j : Nat} {v u : pm_V}, pm_at (pm_st1 lo i v) j = some u → (j = i ∧ u = v) ∨ (j ≠ i ∧ pm_at lo j = some u ∧ ¬ (j + 1 = i ∧ pm_lg (some u) = true))
  | [], _, _, _, _, h => by cases h
  | a :: t, 0, 0, v, u, h => by cases h; exact Or.inl ⟨rfl, rfl⟩
  | a :: t, 0, j + 1, v, u, h => Or.inr ⟨by omega, h, by omega⟩
  | a :: t, n + 1, 0, v, u, h => by
    have h1 : (bif (Nat.beq n 0 && pm_lg a) then none else a) = some u := h
    cases hc : (Nat.beq n 0 && pm_lg a) with
    | true => rw [hc] at h1; cases h1
    | false =>
      rw [hc] at h1
      have h2 : a = some u := h1
      subst h2
      refine Or.inr ⟨by omega, rfl, fun q => ?_⟩
      have : n = 0 := by omega
      subst this
      rw [q.2] at hc
      cases hc
  | a :: t, n + 1, j + 1, v, u, h => by
    have h1 : pm_at (pm_st1 t n v) j = some u := h
    rcases pm_st1_at h1 with ⟨e1, e2⟩ | ⟨e1, e2, e3⟩
    · exact Or.inl ⟨by omega, e2⟩
    · exact Or.inr ⟨by omega, e2, fun q => e3 ⟨by omega, q.2⟩⟩
theorem pm_cl0_at {t : pm_L} {j : Nat} {u : pm_V} (h : pm_at (pm_cl0 t) j = some u) : j ≠ 0 ∧ pm_at t j = some u := by
  cases t with
  | nil => cases h
  | cons a t =>
    cases j with
    | zero => cases h
    | succ j => exact ⟨by omega, h⟩
theorem pm_st2_at : ∀ {lo : pm_L} {i j : Nat} {v u : pm_V}, pm_at (pm_st2 lo i v) j = some u → (j = i ∧ u = v) ∨ (j ≠ i ∧ j ≠ i + 1 ∧ pm_at lo j = some u ∧ ¬ (j + 1 = i ∧ pm_lg (some u) = true))
  | [], _, _, _, _, h => by cases h
  | a :: t, 0, 0, v, u, h => by cases h; exact Or.inl ⟨rfl, rfl⟩
  | a :: t, 0, j + 1, v, u, h => by
    obtain ⟨h1, h2⟩ := pm_cl0_at (t := t) (j := j) h
    exact Or.inr ⟨by omega, by omega, h2, by omega⟩
  | a :: t, n + 1, 0, v, u, h => by
    have h1 : (bif (Nat.beq n 0 && pm_lg a) then none else a) = some u := h
    cases hc : (Nat.beq n 0 && pm_lg a) with
    | true => rw [hc] at h1; cases h1
    | false =>
      rw [hc] at h1
      have h2 : a = some u := h1
      subst h2
      refine Or.inr ⟨by omega, by omega, rfl, fun q => ?_⟩
      have : n = 0 := by omega
      subst this
      rw [q.2] at hc
      cases hc
  | a :: t, n + 1, j + 1, v, u, h => by
    have h1 : pm_at (pm_st2 t n v) j = some u := h
    rcases pm_st2_at h1 with ⟨e1, e2⟩ | ⟨e1, e4, e2, e3⟩
    · exact Or.inl ⟨by omega, e2⟩
    · exact Or.inr ⟨by omega, by omega, e2, fun q => e3 ⟨by omega, q.2⟩⟩
theorem pm_cat (θ : pm_TH) (v : pm_V) : ((pm_tv θ v).category == 2) = pm_lg (some v) := by
  rcases v with n | x | q
  · rfl
  · rfl
  · simp only [pm_tv, pm_ra, pm_lg]
    by_cases h : q = 0 <;> simp [h, va_rf, Value.category]
theorem pm_LR.st1 {θ : pm_TH} {lo : pm_L} {ls ls2 : Array Slot} {nL i : Nat} {v : pm_V} (h : pm_LR θ lo ls nL) (hv : pm_ok v) (hh : lv_has ls2 nL ((i, pm_tv θ v) :: (pm_en θ lo).filter (fun q => !(q.1 == i) && !(q.1 + 1 == i && q.2.category == 2)))) : pm_LR θ (pm_st1 lo i v) ls2 nL := by
  refine ⟨⟨hh.1, hh.2.1, fun q hq => ?_⟩, fun j u hu => ?_⟩
  · obtain ⟨u, h1, h2⟩ := pm_en_mem.mp hq
    refine hh.2.2 q ?_
    rcases pm_st1_at h1 with ⟨e1, e2⟩ | ⟨e1, e2, e3⟩
    · subst e2
      rw [← e1, ← h2]
      exact List.mem_cons_self
    · refine List.mem_cons_of_mem _ (List.mem_filter.mpr ⟨pm_en_mem.mpr ⟨u, e2, h2⟩, ?_⟩)
      rw [h2, pm_cat]
      simp only [Bool.and_eq_true, Bool.not_eq_true', beq_eq_false_iff_ne, ne_eq, Bool.and_eq_false_iff, beq_eq_false_iff_ne]
      refine ⟨e1, ?_⟩
      by_cases q1 : q.1 + 1 = i
      · exact Or.inr (by cases hc : pm_lg (some u) with | true => exact absurd ⟨q1, hc⟩ e3 | false => rfl)
      · exact Or.inl q1
  · rcases pm_st1_at hu with ⟨e1, e2⟩ | ⟨e1, e2, e3⟩
    · rw [e2]; exact hv
    · exact h.2 _ _ e2
theorem pm_LR.st2 {θ : pm_TH} {lo : pm_L} {ls ls2 : Array Slot} {nL i : Nat} {v : pm_V} (h : pm_LR θ lo ls nL) (hv : pm_ok v) (hh : lv_has ls2 nL ((i, pm_tv θ v) :: (pm_en θ lo).filter (fun q => !(q.1 == i) && (!(q.1 == i + 1) && !(q.1 + 1 == i && q.2.category == 2))))) : pm_LR θ (pm_st2 lo i v) ls2 nL := by
  refine ⟨⟨hh.1, hh.2.1, fun q hq => ?_⟩, fun j u hu => ?_⟩
  · obtain ⟨u, h1, h2⟩ := pm_en_mem.mp hq
    refine hh.2.2 q ?_
    rcases pm_st2_at h1 with ⟨e1, e2⟩ | ⟨e1, e4, e2, e3⟩
    · subst e2
      rw [← e1, ← h2]
      exact List.mem_cons_self
    · refine List.mem_cons_of_mem _ (List.mem_filter.mpr ⟨pm_en_mem.mpr ⟨u, e2, h2⟩, ?_⟩)
      rw [h2, pm_cat]
      simp only [Bool.and_eq_true, Bool.not_eq_true', beq_eq_false_iff_ne, ne_eq, Bool.and_eq_false_iff, beq_eq_false_iff_ne]
      refine ⟨e1, e4, ?_⟩
      by_cases q1 : q.1 + 1 = i
      · exact Or.inr (by cases hc : pm_lg (some u) with | true => exact absurd ⟨q1, hc⟩ e3 | false => rfl)
      · exact Or.inl q1
  · rcases pm_st2_at hu with ⟨e1, e2⟩ | ⟨e1, e4, e2, e3⟩
    · rw [e2]; exact hv
    · exact h.2 _ _ e2
theorem pm_msk_at : ∀ {bs : List Bool} {lo : pm_L} {j : Nat} {v : pm_V}, pm_at (pm_msk bs lo) j = some v → pm_at lo j = some v
  | [], _, _, _, h => h
  | _ :: _, [], _, _, h => h
  | true :: _, _ :: _, 0, _, h => h
  | false :: _, _ :: _, 0, _, h => by cases h
  | _ :: bs, _ :: t, j + 1, _, h => pm_msk_at (bs := bs) (lo := t) (j := j) h
