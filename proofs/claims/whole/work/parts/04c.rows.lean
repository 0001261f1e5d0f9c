/-! EACH INSTRUCTION OF THE PURE MACHINE IS THE MACHINE'S -/
def pm_rok (y : Nat) (r : Int) : Prop := match pm_rty y with
  | some .boolean => r = 0 ∨ r = 1
  | some .long => pm_r64 r
  | _ => pm_r32 r
def pm_rv (y : Nat) (r : Int) : List Value := match pm_rty y with
  | none => []
  | some .long => [.long (Int64.ofInt r)]
  | some _ => [.int (Int32.ofInt r)]
abbrev pm_Cx (θ : pm_TH) (env : pm_E) (y d : Nat) (p : Program) (RM : Room) (s : State) (m : MethodId) (args : Array Value) (c : Code) (cells slots : Nat) : Prop :=
  p.tables.exec = Jvm.exec ∧ c.code = pm_cc y ∧ c.maxLocals = pm_nl y ∧ (∀ w ∈ pm_TB, w.before args s = true) ∧ s.vm.findClass (pm_nm y).cls = some m.cls ∧ va_K (pm_D θ) vwCl (pm_tys θ) s ∧ (d ≤ RM.frames ∧ 60 * d ≤ RM.locals) ∧ (cells ≤ RM.cells ∧ slots ≤ RM.slots) ∧ pm_bs θ ≤ s.heap.size ∧ pm_XC θ env s s.heap
/-- the way back of a method -/
def pm_RH (θ : pm_TH) (l : Launch) (env : pm_E) (y : Nat) (res : Int × pm_I) (p : Program) (e : Env) (RM : Room) (s : State) (m : MethodId) (args : Array Value) (below : List Frame) (meth : Method) (c : Code) (cells slots : Nat) (Q : State → Prop) : Prop :=
  ∀ (pc : Nat) (ls : Array Slot) (H : Heap) (locs : List Loc), pm_PR θ env res.2 H → va_S (pm_A θ) s.heap H locs → pm_rok y res.1 → decode (pm_cc y) pc = .ok (match pm_rty y with | none => .return_ | some .long => .lreturn | some _ => .ireturn, 1) →
    W p l e RM s m args below meth c H locs cells slots Q (F0 m pc ls (pm_rv y res.1))
def pm_W (θ : pm_TH) (l : Launch) (env : pm_E) (y d pc : Nat) (lo : pm_L) (sk : List pm_V) (I : pm_I) (res : Int × pm_I) : Prop :=
  ∀ (p : Program) (e : Env) (RM : Room) (s : State) (m : MethodId) (args : Array Value) (below : List Frame) (meth : Method) (c : Code) (cells slots : Nat) (Q : State → Prop), pm_Cx θ env y d p RM s m args c cells slots →
    ∀ (H : Heap) (locs : List Loc) (ls : Array Slot), pm_PR θ env I H → va_S (pm_A θ) s.heap H locs → pm_LR θ lo ls (pm_nl y) → (∀ v ∈ sk, pm_ok v) → pm_RH θ l env y res p e RM s m args below meth c cells slots Q →
      W p l e RM s m args below meth c H locs cells slots Q (F0 m pc ls (sk.map (pm_tv θ)))
def pm_Gd (θ : pm_TH) (l : Launch) (env : pm_E) (G : pm_G) : Prop := ∀ y d pc lo sk I res, G y d pc lo sk I = some res → pm_W θ l env y d pc lo sk I res
def pm_Sd (θ : pm_TH) (l : Launch) (env : pm_E) (y pc : Nat) (σ : pm_S) : Prop := ∀ G, pm_Gd θ l env G → ∀ d lo sk I res, σ env G y d lo sk I = some res → pm_W θ l env y d pc lo sk I res
theorem pm_okc {v : pm_V} {sk : List pm_V} (h : pm_ok v) (hs : ∀ u ∈ sk, pm_ok u) : ∀ u ∈ v :: sk, pm_ok u := List.forall_mem_cons.mpr ⟨h, hs⟩
section ROWS
variable {θ : pm_TH} {l : Launch} {env : pm_E} {y pc nx tg : Nat}
theorem k_bad : pm_Sd θ l env y pc s_bad := fun _ _ _ _ _ _ _ h => by cases h
theorem k_K {h : Nat} {ks : List Bool} {σ : pm_S} (hs : pm_Sd θ l env y pc σ) : pm_Sd θ l env y pc (s_K h ks σ) := by
  intro G hG d lo sk I res hr
  refine hs _ ?_ d lo sk I res hr
  intro y' d' pc' lo' sk' I' res' h'
  dsimp only at h'
  cases hc : Nat.beq pc' h with
  | false => rw [hc] at h'; exact hG _ _ _ _ _ _ _ h'
  | true =>
    rw [hc] at h'
    intro p e RM s m args below meth c cells slots Q C H locs ls hP hS hL hk hR
    exact hG _ _ _ _ _ _ _ h' p e RM s m args below meth c cells slots Q C H locs ls hP hS (hL.mono (fun _ _ => pm_msk_at)) hk hR
theorem k_iconst {n : Int} (hd : decode (pm_cc y) pc = .ok (.iconst n, 1)) (hn : pc + 1 = nx) (hr : pm_r32 n) : pm_Sd θ l env y pc (s_push n nx) := by
  intro G hG d lo sk I res h
  subst hn
  intro p e RM s m args below meth c cells slots Q C H locs ls hP hS hL hk hR
  exact lv_iconst C.1 C.2.1 hd rfl (hG _ _ _ _ _ _ _ h p e RM s m args below meth c cells slots Q C H locs ls hP hS hL (pm_okc hr hk) hR)
theorem k_bipush {n : Int} (hd : decode (pm_cc y) pc = .ok (.bipush n, 2)) (hn : pc + 2 = nx) (hr : pm_r32 n) (hv : (Int8.ofInt n).toInt32 = Int32.ofInt n) : pm_Sd θ l env y pc (s_push n nx) := by
  intro G hG d lo sk I res h
  subst hn
  intro p e RM s m args below meth c cells slots Q C H locs ls hP hS hL hk hR
  exact lv_bipush C.1 C.2.1 hd hv (hG _ _ _ _ _ _ _ h p e RM s m args below meth c cells slots Q C H locs ls hP hS hL (pm_okc hr hk) hR)
theorem k_sipush {n : Int} (hd : decode (pm_cc y) pc = .ok (.sipush n, 3)) (hn : pc + 3 = nx) (hr : pm_r32 n) (hv : (Int16.ofInt n).toInt32 = Int32.ofInt n) : pm_Sd θ l env y pc (s_push n nx) := by
  intro G hG d lo sk I res h
  subst hn
  intro p e RM s m args below meth c cells slots Q C H locs ls hP hS hL hk hR
  exact lv_sipush C.1 C.2.1 hd hv (hG _ _ _ _ _ _ _ h p e RM s m args below meth c cells slots Q C H locs ls hP hS hL (pm_okc hr hk) hR)
theorem k_lconst {n : Fin 2} {v : Int} (hd : decode (pm_cc y) pc = .ok (.lconst n, 1)) (hn : pc + 1 = nx) (hv : Int64.ofNat (n : Nat) = Int64.ofInt v) (hr : pm_r64 v) : pm_Sd θ l env y pc (s_lpush v nx) := by
  intro G hG d lo sk I res h
  subst hn
  intro p e RM s m args below meth c cells slots Q C H locs ls hP hS hL hk hR
  exact lv_lconst C.1 C.2.1 hd hv (hG _ _ _ _ _ _ _ h p e RM s m args below meth c cells slots Q C H locs ls hP hS hL (pm_okc (v := .inr (.inl v)) hr hk) hR)
theorem k_ldc2 {idx : Nat} {v : Int} (hd : decode (pm_cc y) pc = .ok (.ldc2_w idx, 3)) (hn : pc + 3 = nx) (hw : Cond.constantLong (pm_nm y).cls idx (Int64.ofInt v) ∈ pm_TB) (hr : pm_r64 v) : pm_Sd θ l env y pc (s_lpush v nx) := by
  intro G hG d lo sk I res h
  subst hn
  intro p e RM s m args below meth c cells slots Q C H locs ls hP hS hL hk hR
  exact lv_ldc2 C.1 C.2.1 C.2.2.2.2.1 (C.2.2.2.1 _ hw) hd (hG _ _ _ _ _ _ _ h p e RM s m args below meth c cells slots Q C H locs ls hP hS hL (pm_okc (v := .inr (.inl v)) hr hk) hR)
theorem k_iload_n {k : Fin 4} {i : Nat} (hd : decode (pm_cc y) pc = .ok (.iload_n k, 1)) (hi : (k : Nat) = i) (hn : pc + 1 = nx) : pm_Sd θ l env y pc (s_iload i nx) := by
  intro G hG d lo sk I res h
  subst hn
  unfold s_iload at h
  split at h
  · rename_i n hv
    intro p e RM s m args below meth c cells slots Q C H locs ls hP hS hL hk hR
    exact lv_iload_n C.1 C.2.1 hd hi (hL.get hv) (hG _ _ _ _ _ _ _ h p e RM s m args below meth c cells slots Q C H locs ls hP hS hL (pm_okc (hL.2 _ _ hv) hk) hR)
  · cases h
theorem k_iload {i : Nat} (hd : decode (pm_cc y) pc = .ok (.iload i, 2)) (hn : pc + 2 = nx) : pm_Sd θ l env y pc (s_iload i nx) := by
  intro G hG d lo sk I res h
  subst hn
  unfold s_iload at h
  split at h
  · rename_i n hv
    intro p e RM s m args below meth c cells slots Q C H locs ls hP hS hL hk hR
    exact lv_iload C.1 C.2.1 hd (hL.get hv) (hG _ _ _ _ _ _ _ h p e RM s m args below meth c cells slots Q C H locs ls hP hS hL (pm_okc (hL.2 _ _ hv) hk) hR)
  · cases h
theorem k_lload_n {k : Fin 4} {i : Nat} (hd : decode (pm_cc y) pc = .ok (.lload_n k, 1)) (hi : (k : Nat) = i) (hn : pc + 1 = nx) : pm_Sd θ l env y pc (s_lload i nx) := by
  intro G hG d lo sk I res h
  subst hn
  unfold s_lload at h
  split at h
  · rename_i n hv
    intro p e RM s m args below meth c cells slots Q C H locs ls hP hS hL hk hR
    exact lv_lload_n C.1 C.2.1 hd hi (hL.get hv) (hG _ _ _ _ _ _ _ h p e RM s m args below meth c cells slots Q C H locs ls hP hS hL (pm_okc (hL.2 _ _ hv) hk) hR)
  · cases h
theorem k_lload {i : Nat} (hd : decode (pm_cc y) pc = .ok (.lload i, 2)) (hn : pc + 2 = nx) : pm_Sd θ l env y pc (s_lload i nx) := by
  intro G hG d lo sk I res h
  subst hn
  unfold s_lload at h
  split at h
  · rename_i n hv
    intro p e RM s m args below meth c cells slots Q C H locs ls hP hS hL hk hR
    exact lv_lload C.1 C.2.1 hd (hL.get hv) (hG _ _ _ _ _ _ _ h p e RM s m args below meth c cells slots Q C H locs ls hP hS hL (pm_okc (hL.2 _ _ hv) hk) hR)
  · cases h
theorem k_aload_n {k : Fin 4} {i : Nat} (hd : decode (pm_cc y) pc = .ok (.aload_n k, 1)) (hi : (k : Nat) = i) (hn : pc + 1 = nx) : pm_Sd θ l env y pc (s_aload i nx) := by
  intro G hG d lo sk I res h
  subst hn
  unfold s_aload at h
  split at h
  · rename_i n hv
    intro p e RM s m args below meth c cells slots Q C H locs ls hP hS hL hk hR
    have g := hL.get hv
    have kk := hG _ _ _ _ _ _ _ h p e RM s m args below meth c cells slots Q C H locs ls hP hS hL (pm_okc (v := .inr (.inr n)) trivial hk) hR
    cases hn : pm_ra θ n with
    | none =>
      have e1 : pm_tv θ (.inr (.inr n)) = .null := by simp only [pm_tv, hn, va_rf]
      rw [e1] at g
      rw [List.map_cons, e1] at kk
      exact lv_aload_nN C.1 C.2.1 hd hi g kk
    | some a =>
      have e1 : pm_tv θ (.inr (.inr n)) = .ref a := by simp only [pm_tv, hn, va_rf]
      rw [e1] at g
      rw [List.map_cons, e1] at kk
      exact lv_aload_n C.1 C.2.1 hd hi g kk
  · cases h
theorem k_aload {i : Nat} (hd : decode (pm_cc y) pc = .ok (.aload i, 2)) (hn : pc + 2 = nx) : pm_Sd θ l env y pc (s_aload i nx) := by
  intro G hG d lo sk I res h
  subst hn
  unfold s_aload at h
  split at h
  · rename_i n hv
    intro p e RM s m args below meth c cells slots Q C H locs ls hP hS hL hk hR
    have g := hL.get hv
    have kk := hG _ _ _ _ _ _ _ h p e RM s m args below meth c cells slots Q C H locs ls hP hS hL (pm_okc (v := .inr (.inr n)) trivial hk) hR
    cases hn : pm_ra θ n with
    | none =>
      have e1 : pm_tv θ (.inr (.inr n)) = .null := by simp only [pm_tv, hn, va_rf]
      rw [e1] at g
      rw [List.map_cons, e1] at kk
      exact lv_aloadN C.1 C.2.1 hd g kk
    | some a =>
      have e1 : pm_tv θ (.inr (.inr n)) = .ref a := by simp only [pm_tv, hn, va_rf]
      rw [e1] at g
      rw [List.map_cons, e1] at kk
      exact lv_aload C.1 C.2.1 hd g kk
  · cases h
theorem k_istore_n {k : Fin 4} {i : Nat} (hd : decode (pm_cc y) pc = .ok (.istore_n k, 1)) (hi : (k : Nat) = i) (hn : pc + 1 = nx) (hm : i < pm_nl y) : pm_Sd θ l env y pc (s_istore i nx) := by
  intro G hG d lo sk I res h
  subst hn
  unfold s_istore at h
  split at h
  · rename_i n r
    intro p e RM s m args below meth c cells slots Q C H locs ls hP hS hL hk hR
    exact lv_istore_n C.1 C.2.1 hd hi hL.1 hm rfl (fun ls' hh => hG _ _ _ _ _ _ _ h p e RM s m args below meth c cells slots Q C H locs ls' hP hS (hL.st1 (v := .inl n) (hk (.inl n) List.mem_cons_self) hh) (fun u hu => hk u (List.mem_cons_of_mem _ hu)) hR)
  · cases h
theorem k_istore {i : Nat} (hd : decode (pm_cc y) pc = .ok (.istore i, 2)) (hn : pc + 2 = nx) (hm : i < pm_nl y) : pm_Sd θ l env y pc (s_istore i nx) := by
  intro G hG d lo sk I res h
  subst hn
  unfold s_istore at h
  split at h
  · rename_i n r
    intro p e RM s m args below meth c cells slots Q C H locs ls hP hS hL hk hR
    exact lv_istore C.1 C.2.1 hd hL.1 hm rfl (fun ls' hh => hG _ _ _ _ _ _ _ h p e RM s m args below meth c cells slots Q C H locs ls' hP hS (hL.st1 (v := .inl n) (hk (.inl n) List.mem_cons_self) hh) (fun u hu => hk u (List.mem_cons_of_mem _ hu)) hR)
  · cases h
theorem k_lstore_n {k : Fin 4} {i : Nat} (hd : decode (pm_cc y) pc = .ok (.lstore_n k, 1)) (hi : (k : Nat) = i) (hn : pc + 1 = nx) (hm : i + 1 < pm_nl y) : pm_Sd θ l env y pc (s_lstore i nx) := by
  intro G hG d lo sk I res h
  subst hn
  unfold s_lstore at h
  split at h
  · rename_i n r
    intro p e RM s m args below meth c cells slots Q C H locs ls hP hS hL hk hR
    exact lv_lstore_n C.1 C.2.1 hd hi hL.1 hm rfl (fun ls' hh => hG _ _ _ _ _ _ _ h p e RM s m args below meth c cells slots Q C H locs ls' hP hS (hL.st2 (v := .inr (.inl n)) (hk (.inr (.inl n)) List.mem_cons_self) hh) (fun u hu => hk u (List.mem_cons_of_mem _ hu)) hR)
  · cases h
theorem k_lstore {i : Nat} (hd : decode (pm_cc y) pc = .ok (.lstore i, 2)) (hn : pc + 2 = nx) (hm : i + 1 < pm_nl y) : pm_Sd θ l env y pc (s_lstore i nx) := by
  intro G hG d lo sk I res h
  subst hn
  unfold s_lstore at h
  split at h
  · rename_i n r
    intro p e RM s m args below meth c cells slots Q C H locs ls hP hS hL hk hR
    exact lv_lstore C.1 C.2.1 hd hL.1 hm rfl (fun ls' hh => hG _ _ _ _ _ _ _ h p e RM s m args below meth c cells slots Q C H locs ls' hP hS (hL.st2 (v := .inr (.inl n)) (hk (.inr (.inl n)) List.mem_cons_self) hh) (fun u hu => hk u (List.mem_cons_of_mem _ hu)) hR)
  · cases h
theorem k_astore_n {k : Fin 4} {i : Nat} (hd : decode (pm_cc y) pc = .ok (.astore_n k, 1)) (hi : (k : Nat) = i) (hn : pc + 1 = nx) (hm : i < pm_nl y) : pm_Sd θ l env y pc (s_astore i nx) := by
  intro G hG d lo sk I res h
  subst hn
  unfold s_astore at h
  split at h
  · rename_i n r
    intro p e RM s m args below meth c cells slots Q C H locs ls hP hS hL hk hR
    have kk := fun ls' hL' => hG _ _ _ _ _ _ _ h p e RM s m args below meth c cells slots Q C H locs ls' hP hS hL' (fun u hu => hk u (List.mem_cons_of_mem _ hu)) hR
    cases hn : pm_ra θ n with
    | none =>
      have e1 : pm_tv θ (.inr (.inr n)) = .null := by simp only [pm_tv, hn, va_rf]
      rw [List.map_cons, e1]
      exact lv_astore_nN C.1 C.2.1 hd hi hL.1 hm rfl (fun ls' hh => kk ls' (hL.st1 (v := .inr (.inr n)) trivial (by rw [e1]; exact hh)))
    | some a =>
      have e1 : pm_tv θ (.inr (.inr n)) = .ref a := by simp only [pm_tv, hn, va_rf]
      rw [List.map_cons, e1]
      exact lv_astore_n C.1 C.2.1 hd hi hL.1 hm rfl (fun ls' hh => kk ls' (hL.st1 (v := .inr (.inr n)) trivial (by rw [e1]; exact hh)))
  · cases h
theorem k_astore {i : Nat} (hd : decode (pm_cc y) pc = .ok (.astore i, 2)) (hn : pc + 2 = nx) (hm : i < pm_nl y) : pm_Sd θ l env y pc (s_astore i nx) := by
  intro G hG d lo sk I res h
  subst hn
  unfold s_astore at h
  split at h
  · rename_i n r
    intro p e RM s m args below meth c cells slots Q C H locs ls hP hS hL hk hR
    have kk := fun ls' hL' => hG _ _ _ _ _ _ _ h p e RM s m args below meth c cells slots Q C H locs ls' hP hS hL' (fun u hu => hk u (List.mem_cons_of_mem _ hu)) hR
    cases hn : pm_ra θ n with
    | none =>
      have e1 : pm_tv θ (.inr (.inr n)) = .null := by simp only [pm_tv, hn, va_rf]
      rw [List.map_cons, e1]
      exact lv_astoreN C.1 C.2.1 hd hL.1 hm rfl (fun ls' hh => kk ls' (hL.st1 (v := .inr (.inr n)) trivial (by rw [e1]; exact hh)))
    | some a =>
      have e1 : pm_tv θ (.inr (.inr n)) = .ref a := by simp only [pm_tv, hn, va_rf]
      rw [List.map_cons, e1]
      exact lv_astore C.1 C.2.1 hd hL.1 hm rfl (fun ls' hh => kk ls' (hL.st1 (v := .inr (.inr n)) trivial (by rw [e1]; exact hh)))
  · cases h
theorem k_iinc {i : Nat} {k : Int} (hd : decode (pm_cc y) pc = .ok (.iinc i k, 3)) (hn : pc + 3 = nx) (hm : i < pm_nl y) : pm_Sd θ l env y pc (s_iinc i k nx) := by
  intro G hG d lo sk I res h
  subst hn
  unfold s_iinc at h
  split at h
  · rename_i n hv
    split at h
    · rename_i hr
      intro p e RM s m args below meth c cells slots Q C H locs ls hP hS hL hk hR
      obtain ⟨q, hq⟩ := List.getElem?_of_mem (pm_en_mem (θ := θ) (q := (i, pm_tv θ (.inl n))).mpr ⟨_, hv, rfl⟩)
      exact lv_iinc C.1 C.2.1 hd hL.1 hq (Int32.ofInt_add n k).symm hm rfl (fun ls' hh => hG _ _ _ _ _ _ _ h p e RM s m args below meth c cells slots Q C H locs ls' hP hS (hL.st1 (v := .inl (n + k)) hr hh) hk hR)
    · cases h
  · cases h
theorem k_iadd (hd : decode (pm_cc y) pc = .ok (.iadd, 1)) (hn : pc + 1 = nx) : pm_Sd θ l env y pc (s_iadd nx) := by
  intro G hG d lo sk I res h
  subst hn
  unfold s_iadd at h
  split at h
  · rename_i b a r
    split at h
    · rename_i hr
      intro p e RM s m args below meth c cells slots Q C H locs ls hP hS hL hk hR
      have hb : pm_ok (.inl b) := hk _ List.mem_cons_self
      have ha : pm_ok (.inl a) := hk _ (List.mem_cons_of_mem _ List.mem_cons_self)
      have hk : ∀ u ∈ r, pm_ok u := fun u hu => hk u (List.mem_cons_of_mem _ (List.mem_cons_of_mem _ hu))
      have kk := hG _ _ _ _ _ _ _ h p e RM s m args below meth c cells slots Q C H locs ls hP hS hL (pm_okc (v := .inl (a + b)) (hr) hk) hR
      refine lv_iadd C.1 C.2.1 hd ?_
      rw [← Int32.ofInt_add]
      exact kk
    · cases h
  · cases h
theorem k_isub (hd : decode (pm_cc y) pc = .ok (.isub, 1)) (hn : pc + 1 = nx) : pm_Sd θ l env y pc (s_isub nx) := by
  intro G hG d lo sk I res h
  subst hn
  unfold s_isub at h
  split at h
  · rename_i b a r
    split at h
    · rename_i hr
      intro p e RM s m args below meth c cells slots Q C H locs ls hP hS hL hk hR
      have hb : pm_ok (.inl b) := hk _ List.mem_cons_self
      have ha : pm_ok (.inl a) := hk _ (List.mem_cons_of_mem _ List.mem_cons_self)
      have hk : ∀ u ∈ r, pm_ok u := fun u hu => hk u (List.mem_cons_of_mem _ (List.mem_cons_of_mem _ hu))
      have kk := hG _ _ _ _ _ _ _ h p e RM s m args below meth c cells slots Q C H locs ls hP hS hL (pm_okc (v := .inl (a - b)) (hr) hk) hR
      refine lv_isub C.1 C.2.1 hd ?_
      rw [← Int32.ofInt_sub]
      exact kk
    · cases h
  · cases h
theorem k_imul (hd : decode (pm_cc y) pc = .ok (.imul, 1)) (hn : pc + 1 = nx) : pm_Sd θ l env y pc (s_imul nx) := by
  intro G hG d lo sk I res h
  subst hn
  unfold s_imul at h
  split at h
  · rename_i b a r
    split at h
    · rename_i hr
      intro p e RM s m args below meth c cells slots Q C H locs ls hP hS hL hk hR
      have hb : pm_ok (.inl b) := hk _ List.mem_cons_self
      have ha : pm_ok (.inl a) := hk _ (List.mem_cons_of_mem _ List.mem_cons_self)
      have hk : ∀ u ∈ r, pm_ok u := fun u hu => hk u (List.mem_cons_of_mem _ (List.mem_cons_of_mem _ hu))
      have kk := hG _ _ _ _ _ _ _ h p e RM s m args below meth c cells slots Q C H locs ls hP hS hL (pm_okc (v := .inl (a * b)) (hr) hk) hR
      refine lv_imul C.1 C.2.1 hd ?_
      rw [← Int32.ofInt_mul]
      exact kk
    · cases h
  · cases h
theorem k_idiv (hd : decode (pm_cc y) pc = .ok (.idiv, 1)) (hn : pc + 1 = nx) : pm_Sd θ l env y pc (s_idiv nx) := by
  intro G hG d lo sk I res h
  subst hn
  unfold s_idiv at h
  split at h
  · rename_i b a r
    split at h
    · rename_i hr
      intro p e RM s m args below meth c cells slots Q C H locs ls hP hS hL hk hR
      have hb : pm_ok (.inl b) := hk _ List.mem_cons_self
      have ha : pm_ok (.inl a) := hk _ (List.mem_cons_of_mem _ List.mem_cons_self)
      have hk : ∀ u ∈ r, pm_ok u := fun u hu => hk u (List.mem_cons_of_mem _ (List.mem_cons_of_mem _ hu))
      have kk := hG _ _ _ _ _ _ _ h p e RM s m args below meth c cells slots Q C H locs ls hP hS hL (pm_okc (v := .inl (a / b)) (by have := pm_div_r hr; have h9 : pm_r32 a := ha; exact ⟨by omega, by omega⟩) hk) hR
      refine lv_idiv C.1 C.2.1 hd (fun q => by have := (pm_eq0 hb).mp q; omega) ?_
      rw [pm_idiv ha hb hr]
      exact kk
    · cases h
  · cases h
theorem k_irem (hd : decode (pm_cc y) pc = .ok (.irem, 1)) (hn : pc + 1 = nx) : pm_Sd θ l env y pc (s_irem nx) := by
  intro G hG d lo sk I res h
  subst hn
  unfold s_irem at h
  split at h
  · rename_i b a r
    split at h
    · rename_i hr
      intro p e RM s m args below meth c cells slots Q C H locs ls hP hS hL hk hR
      have hb : pm_ok (.inl b) := hk _ List.mem_cons_self
      have ha : pm_ok (.inl a) := hk _ (List.mem_cons_of_mem _ List.mem_cons_self)
      have hk : ∀ u ∈ r, pm_ok u := fun u hu => hk u (List.mem_cons_of_mem _ (List.mem_cons_of_mem _ hu))
      have kk := hG _ _ _ _ _ _ _ h p e RM s m args below meth c cells slots Q C H locs ls hP hS hL (pm_okc (v := .inl (a % b)) (by have := pm_mod_r hr; have h9 : pm_r32 b := hb; exact ⟨by omega, by omega⟩) hk) hR
      refine lv_irem C.1 C.2.1 hd (fun q => by have := (pm_eq0 hb).mp q; omega) ?_
      rw [pm_irem ha hb hr]
      exact kk
    · cases h
  · cases h
theorem k_iand (hd : decode (pm_cc y) pc = .ok (.iand, 1)) (hn : pc + 1 = nx) : pm_Sd θ l env y pc (s_iand nx) := by
  intro G hG d lo sk I res h
  subst hn
  unfold s_iand at h
  split at h
  · rename_i b a r
    intro p e RM s m args below meth c cells slots Q C H locs ls hP hS hL hk hR
    have hb : pm_ok (.inl b) := hk _ List.mem_cons_self
    have ha : pm_ok (.inl a) := hk _ (List.mem_cons_of_mem _ List.mem_cons_self)
    have hk : ∀ u ∈ r, pm_ok u := fun u hu => hk u (List.mem_cons_of_mem _ (List.mem_cons_of_mem _ hu))
    have kk := hG _ _ _ _ _ _ _ h p e RM s m args below meth c cells slots Q C H locs ls hP hS hL (pm_okc (v := .inl (pm_and a b)) (pm_toI_r _) hk) hR
    refine lv_iand C.1 C.2.1 hd ?_
    rw [← pm_toI (Int32.ofInt a &&& Int32.ofInt b)]
    exact kk
  · cases h
theorem k_ixor (hd : decode (pm_cc y) pc = .ok (.ixor, 1)) (hn : pc + 1 = nx) : pm_Sd θ l env y pc (s_ixor nx) := by
  intro G hG d lo sk I res h
  subst hn
  unfold s_ixor at h
  split at h
  · rename_i b a r
    intro p e RM s m args below meth c cells slots Q C H locs ls hP hS hL hk hR
    have hb : pm_ok (.inl b) := hk _ List.mem_cons_self
    have ha : pm_ok (.inl a) := hk _ (List.mem_cons_of_mem _ List.mem_cons_self)
    have hk : ∀ u ∈ r, pm_ok u := fun u hu => hk u (List.mem_cons_of_mem _ (List.mem_cons_of_mem _ hu))
    have kk := hG _ _ _ _ _ _ _ h p e RM s m args below meth c cells slots Q C H locs ls hP hS hL (pm_okc (v := .inl (pm_xor a b)) (pm_toI_r _) hk) hR
    refine lv_ixor C.1 C.2.1 hd ?_
    rw [← pm_toI (Int32.ofInt a ^^^ Int32.ofInt b)]
    exact kk
  · cases h
theorem k_ishl (hd : decode (pm_cc y) pc = .ok (.ishl, 1)) (hn : pc + 1 = nx) : pm_Sd θ l env y pc (s_ishl nx) := by
  intro G hG d lo sk I res h
  subst hn
  unfold s_ishl at h
  split at h
  · rename_i b a r
    intro p e RM s m args below meth c cells slots Q C H locs ls hP hS hL hk hR
    have hb : pm_ok (.inl b) := hk _ List.mem_cons_self
    have ha : pm_ok (.inl a) := hk _ (List.mem_cons_of_mem _ List.mem_cons_self)
    have hk : ∀ u ∈ r, pm_ok u := fun u hu => hk u (List.mem_cons_of_mem _ (List.mem_cons_of_mem _ hu))
    have kk := hG _ _ _ _ _ _ _ h p e RM s m args below meth c cells slots Q C H locs ls hP hS hL (pm_okc (v := .inl (pm_shl a b)) (pm_toI_r _) hk) hR
    refine lv_ishl C.1 C.2.1 hd ?_
    rw [← pm_toI (Int32.ofInt a <<< (Int32.ofInt b &&& 31))]
    exact kk
  · cases h
theorem k_ishr (hd : decode (pm_cc y) pc = .ok (.ishr, 1)) (hn : pc + 1 = nx) : pm_Sd θ l env y pc (s_ishr nx) := by
  intro G hG d lo sk I res h
  subst hn
  unfold s_ishr at h
  split at h
  · rename_i b a r
    intro p e RM s m args below meth c cells slots Q C H locs ls hP hS hL hk hR
    have hb : pm_ok (.inl b) := hk _ List.mem_cons_self
    have ha : pm_ok (.inl a) := hk _ (List.mem_cons_of_mem _ List.mem_cons_self)
    have hk : ∀ u ∈ r, pm_ok u := fun u hu => hk u (List.mem_cons_of_mem _ (List.mem_cons_of_mem _ hu))
    have kk := hG _ _ _ _ _ _ _ h p e RM s m args below meth c cells slots Q C H locs ls hP hS hL (pm_okc (v := .inl (pm_shr a b)) (pm_toI_r _) hk) hR
    refine lv_ishr C.1 C.2.1 hd ?_
    rw [← pm_toI (Int32.ofInt a >>> (Int32.ofInt b &&& 31))]
    exact kk
  · cases h
theorem k_i2b (hd : decode (pm_cc y) pc = .ok (.i2b, 1)) (hn : pc + 1 = nx) : pm_Sd θ l env y pc (s_i2b nx) := by
  intro G hG d lo sk I res h
  subst hn
  unfold s_i2b at h
  split at h
  · rename_i a r
    intro p e RM s m args below meth c cells slots Q C H locs ls hP hS hL hk hR
    exact lv_i2b C.1 C.2.1 hd (pm_toI _).symm (hG _ _ _ _ _ _ _ h p e RM s m args below meth c cells slots Q C H locs ls hP hS hL (pm_okc (v := .inl (pm_i2b a)) (pm_toI_r _) (fun u hu => hk u (List.mem_cons_of_mem _ hu))) hR)
  · cases h
theorem k_i2s (hd : decode (pm_cc y) pc = .ok (.i2s, 1)) (hn : pc + 1 = nx) : pm_Sd θ l env y pc (s_i2s nx) := by
  intro G hG d lo sk I res h
  subst hn
  unfold s_i2s at h
  split at h
  · rename_i a r
    intro p e RM s m args below meth c cells slots Q C H locs ls hP hS hL hk hR
    exact lv_i2s C.1 C.2.1 hd (pm_toI _).symm (hG _ _ _ _ _ _ _ h p e RM s m args below meth c cells slots Q C H locs ls hP hS hL (pm_okc (v := .inl (pm_i2s a)) (pm_toI_r _) (fun u hu => hk u (List.mem_cons_of_mem _ hu))) hR)
  · cases h
theorem k_i2l (hd : decode (pm_cc y) pc = .ok (.i2l, 1)) (hn : pc + 1 = nx) : pm_Sd θ l env y pc (s_i2l nx) := by
  intro G hG d lo sk I res h
  subst hn
  unfold s_i2l at h
  split at h
  · rename_i a r
    intro p e RM s m args below meth c cells slots Q C H locs ls hP hS hL hk hR
    have ha : pm_r32 a := hk (.inl a) List.mem_cons_self
    exact lv_i2l C.1 C.2.1 hd (pm_i2l_of ha) (hG _ _ _ _ _ _ _ h p e RM s m args below meth c cells slots Q C H locs ls hP hS hL (pm_okc (v := .inr (.inl a)) (show pm_r64 a by omega) (fun u hu => hk u (List.mem_cons_of_mem _ hu))) hR)
  · cases h
theorem pm_ne64 {b : Int} (hb : pm_r64 b) (h : 0 < b) : ¬ Int64.ofInt b = 0 := by
  intro q
  have h0 : (Int64.ofInt b).toInt = 0 := by rw [q]; rfl
  rw [pm_toInt64 hb] at h0
  omega
theorem k_ladd (hd : decode (pm_cc y) pc = .ok (.ladd, 1)) (hn : pc + 1 = nx) : pm_Sd θ l env y pc (s_ladd nx) := by
  intro G hG d lo sk I res h
  subst hn
  unfold s_ladd at h
  split at h
  · rename_i b a r
    intro p e RM s m args below meth c cells slots Q C H locs ls hP hS hL hk hR
    have hb : pm_ok (.inr (.inl b)) := hk _ List.mem_cons_self
    have ha : pm_ok (.inr (.inl a)) := hk _ (List.mem_cons_of_mem _ List.mem_cons_self)
    have hk : ∀ u ∈ r, pm_ok u := fun u hu => hk u (List.mem_cons_of_mem _ (List.mem_cons_of_mem _ hu))
    have kk := hG _ _ _ _ _ _ _ h p e RM s m args below meth c cells slots Q C H locs ls hP hS hL (pm_okc (v := .inr (.inl (pm_w64 (a + b)))) (pm_w64_r _) hk) hR
    refine lv_ladd C.1 C.2.1 hd ?_
    rw [← Int64.ofInt_add, ← pm_w64_of]
    exact kk
  · cases h
theorem k_lmul (hd : decode (pm_cc y) pc = .ok (.lmul, 1)) (hn : pc + 1 = nx) : pm_Sd θ l env y pc (s_lmul nx) := by
  intro G hG d lo sk I res h
  subst hn
  unfold s_lmul at h
  split at h
  · rename_i b a r
    intro p e RM s m args below meth c cells slots Q C H locs ls hP hS hL hk hR
    have hb : pm_ok (.inr (.inl b)) := hk _ List.mem_cons_self
    have ha : pm_ok (.inr (.inl a)) := hk _ (List.mem_cons_of_mem _ List.mem_cons_self)
    have hk : ∀ u ∈ r, pm_ok u := fun u hu => hk u (List.mem_cons_of_mem _ (List.mem_cons_of_mem _ hu))
    have kk := hG _ _ _ _ _ _ _ h p e RM s m args below meth c cells slots Q C H locs ls hP hS hL (pm_okc (v := .inr (.inl (pm_w64 (a * b)))) (pm_w64_r _) hk) hR
    refine lv_lmul C.1 C.2.1 hd ?_
    rw [← Int64.ofInt_mul, ← pm_w64_of]
    exact kk
  · cases h
theorem k_ldiv (hd : decode (pm_cc y) pc = .ok (.ldiv, 1)) (hn : pc + 1 = nx) : pm_Sd θ l env y pc (s_ldiv nx) := by
  intro G hG d lo sk I res h
  subst hn
  unfold s_ldiv at h
  split at h
  · rename_i b a r
    split at h
    · rename_i hr
      intro p e RM s m args below meth c cells slots Q C H locs ls hP hS hL hk hR
      have hb : pm_ok (.inr (.inl b)) := hk _ List.mem_cons_self
      have ha : pm_ok (.inr (.inl a)) := hk _ (List.mem_cons_of_mem _ List.mem_cons_self)
      have hk : ∀ u ∈ r, pm_ok u := fun u hu => hk u (List.mem_cons_of_mem _ (List.mem_cons_of_mem _ hu))
      have kk := hG _ _ _ _ _ _ _ h p e RM s m args below meth c cells slots Q C H locs ls hP hS hL (pm_okc (v := .inr (.inl (a / b))) (by have := pm_div_r hr; have h9 : pm_r64 a := ha; exact ⟨by omega, by omega⟩) hk) hR
      refine lv_ldiv C.1 C.2.1 hd (pm_ne64 hb hr.2) ?_
      rw [pm_ldiv ha hb hr]
      exact kk
    · cases h
  · cases h
theorem k_lrem (hd : decode (pm_cc y) pc = .ok (.lrem, 1)) (hn : pc + 1 = nx) : pm_Sd θ l env y pc (s_lrem nx) := by
  intro G hG d lo sk I res h
  subst hn
  unfold s_lrem at h
  split at h
  · rename_i b a r
    split at h
    · rename_i hr
      intro p e RM s m args below meth c cells slots Q C H locs ls hP hS hL hk hR
      have hb : pm_ok (.inr (.inl b)) := hk _ List.mem_cons_self
      have ha : pm_ok (.inr (.inl a)) := hk _ (List.mem_cons_of_mem _ List.mem_cons_self)
      have hk : ∀ u ∈ r, pm_ok u := fun u hu => hk u (List.mem_cons_of_mem _ (List.mem_cons_of_mem _ hu))
      have kk := hG _ _ _ _ _ _ _ h p e RM s m args below meth c cells slots Q C H locs ls hP hS hL (pm_okc (v := .inr (.inl (a % b))) (by have := pm_mod_r hr; have h9 : pm_r64 b := hb; exact ⟨by omega, by omega⟩) hk) hR
      refine lv_lrem C.1 C.2.1 hd (pm_ne64 hb hr.2) ?_
      rw [pm_lrem ha hb hr]
      exact kk
    · cases h
  · cases h
theorem pm_lcmp {a b : Int} (ha : pm_r64 a) (hb : pm_r64 b) : lg_cmp (Int64.ofInt a) (Int64.ofInt b) = Int32.ofInt (if b < a then 1 else if a = b then 0 else -1) := by
  unfold lg_cmp
  have e1 : (Int64.ofInt a > Int64.ofInt b) ↔ b < a := by
    show Int64.ofInt b < Int64.ofInt a ↔ _
    rw [Int64.lt_iff_toInt_lt, pm_toInt64 ha, pm_toInt64 hb]
  have e2 : (Int64.ofInt a = Int64.ofInt b) ↔ a = b := by rw [← Int64.toInt_inj, pm_toInt64 ha, pm_toInt64 hb]
  by_cases h1 : b < a
  · rw [if_pos (e1.mpr h1), if_pos h1]; rfl
  · rw [if_neg (fun q => h1 (e1.mp q)), if_neg h1]
    by_cases h2 : a = b
    · rw [if_pos (e2.mpr h2), if_pos h2]; rfl
    · rw [if_neg (fun q => h2 (e2.mp q)), if_neg h2]; rfl
theorem k_lcmp (hd : decode (pm_cc y) pc = .ok (.lcmp, 1)) (hn : pc + 1 = nx) : pm_Sd θ l env y pc (s_lcmp nx) := by
  intro G hG d lo sk I res h
  subst hn
  unfold s_lcmp at h
  split at h
  · rename_i b a r
    intro p e RM s m args below meth c cells slots Q C H locs ls hP hS hL hk hR
    have hb : pm_r64 b := hk (.inr (.inl b)) List.mem_cons_self
    have ha : pm_r64 a := hk (.inr (.inl a)) (List.mem_cons_of_mem _ List.mem_cons_self)
    have hk : ∀ u ∈ r, pm_ok u := fun u hu => hk u (List.mem_cons_of_mem _ (List.mem_cons_of_mem _ hu))
    refine W.lcmp C.1 C.2.1 hd ?_
    rw [pm_lcmp ha hb]
    by_cases h1 : b < a
    · rw [if_pos h1] at h ⊢
      exact hG _ _ _ _ _ _ _ h p e RM s m args below meth c cells slots Q C H locs ls hP hS hL (pm_okc (v := .inl 1) (show pm_r32 1 by decide) hk) hR
    · rw [if_neg h1] at h ⊢
      by_cases h2 : a = b
      · rw [if_pos h2] at h ⊢
        exact hG _ _ _ _ _ _ _ h p e RM s m args below meth c cells slots Q C H locs ls hP hS hL (pm_okc (v := .inl 0) (show pm_r32 0 by decide) hk) hR
      · rw [if_neg h2] at h ⊢
        exact hG _ _ _ _ _ _ _ h p e RM s m args below meth c cells slots Q C H locs ls hP hS hL (pm_okc (v := .inl (-1)) (show pm_r32 (-1) by decide) hk) hR
  · cases h
theorem k_dup (hd : decode (pm_cc y) pc = .ok (.dup, 1)) (hn : pc + 1 = nx) : pm_Sd θ l env y pc (s_dup nx) := by
  intro G hG d lo sk I res h
  subst hn
  unfold s_dup at h
  split at h
  · rename_i a r
    intro p e RM s m args below meth c cells slots Q C H locs ls hP hS hL hk hR
    exact lv_dup C.1 C.2.1 hd rfl (hG _ _ _ _ _ _ _ h p e RM s m args below meth c cells slots Q C H locs ls hP hS hL (pm_okc (hk _ List.mem_cons_self) hk) hR)
  · rename_i a r
    intro p e RM s m args below meth c cells slots Q C H locs ls hP hS hL hk hR
    refine lv_dup C.1 C.2.1 hd ?_ (hG _ _ _ _ _ _ _ h p e RM s m args below meth c cells slots Q C H locs ls hP hS hL (pm_okc (v := .inr (.inr a)) trivial hk) hR)
    show (va_rf (pm_ra θ a)).category = 1
    cases pm_ra θ a <;> rfl
  · cases h
theorem k_dup2 (hd : decode (pm_cc y) pc = .ok (.dup2, 1)) (hn : pc + 1 = nx) : pm_Sd θ l env y pc (s_dup2 nx) := by
  intro G hG d lo sk I res h
  subst hn
  unfold s_dup2 at h
  split at h
  · rename_i a b r
    intro p e RM s m args below meth c cells slots Q C H locs ls hP hS hL hk hR
    refine lv_dup2_11 C.1 C.2.1 hd rfl ?_ (hG _ _ _ _ _ _ _ h p e RM s m args below meth c cells slots Q C H locs ls hP hS hL (pm_okc (hk _ List.mem_cons_self) (pm_okc (v := .inr (.inr b)) trivial hk)) hR)
    show (va_rf (pm_ra θ b)).category = 1
    cases pm_ra θ b <;> rfl
  · cases h
theorem k_ifeq {off : Int} (hd : decode (pm_cc y) pc = .ok (.ifCond .eq off, 3)) (ht : (pc : Int) + off = (tg : Int)) (hn : pc + 3 = nx) : pm_Sd θ l env y pc (s_ifeq tg nx) := by
  intro G hG d lo sk I res h
  subst hn
  unfold s_ifeq at h
  split at h
  · rename_i a r
    intro p e RM s m args below meth c cells slots Q C H locs ls hP hS hL hk hR
    have ha : pm_r32 a := hk (.inl a) List.mem_cons_self
    have hk : ∀ u ∈ r, pm_ok u := fun u hu => hk u (List.mem_cons_of_mem _ hu)
    refine lv_if_eq C.1 C.2.1 hd ht (fun q => ?_) (fun q => ?_)
    · rw [if_pos ((pm_eq0 ha).mp q)] at h
      exact hG _ _ _ _ _ _ _ h p e RM s m args below meth c cells slots Q C H locs ls hP hS hL hk hR
    · rw [if_neg (fun z => q ((pm_eq0 ha).mpr z))] at h
      exact hG _ _ _ _ _ _ _ h p e RM s m args below meth c cells slots Q C H locs ls hP hS hL hk hR
  · cases h
theorem k_ifne {off : Int} (hd : decode (pm_cc y) pc = .ok (.ifCond .ne off, 3)) (ht : (pc : Int) + off = (tg : Int)) (hn : pc + 3 = nx) : pm_Sd θ l env y pc (s_ifne tg nx) := by
  intro G hG d lo sk I res h
  subst hn
  unfold s_ifne at h
  split at h
  · rename_i a r
    intro p e RM s m args below meth c cells slots Q C H locs ls hP hS hL hk hR
    have ha : pm_r32 a := hk (.inl a) List.mem_cons_self
    have hk : ∀ u ∈ r, pm_ok u := fun u hu => hk u (List.mem_cons_of_mem _ hu)
    refine lv_if_ne C.1 C.2.1 hd ht (fun q => ?_) (fun q => ?_)
    · have z : ¬ a = 0 := fun z => q ((pm_eq0 ha).mpr z)
      rw [if_neg z] at h
      exact hG _ _ _ _ _ _ _ h p e RM s m args below meth c cells slots Q C H locs ls hP hS hL hk hR
    · have z : a = 0 := by first | exact (pm_eq0 ha).mp q | exact (pm_eq0 ha).mp (Decidable.not_not.mp q)
      rw [if_pos z] at h
      exact hG _ _ _ _ _ _ _ h p e RM s m args below meth c cells slots Q C H locs ls hP hS hL hk hR
  · cases h
theorem k_iflt {off : Int} (hd : decode (pm_cc y) pc = .ok (.ifCond .lt off, 3)) (ht : (pc : Int) + off = (tg : Int)) (hn : pc + 3 = nx) : pm_Sd θ l env y pc (s_iflt tg nx) := by
  intro G hG d lo sk I res h
  subst hn
  unfold s_iflt at h
  split at h
  · rename_i a r
    intro p e RM s m args below meth c cells slots Q C H locs ls hP hS hL hk hR
    have ha : pm_r32 a := hk (.inl a) List.mem_cons_self
    have hk : ∀ u ∈ r, pm_ok u := fun u hu => hk u (List.mem_cons_of_mem _ hu)
    refine lv_if_lt C.1 C.2.1 hd ht (fun q => ?_) (fun q => ?_)
    · rw [if_pos ((pm_lt0 ha).mp q)] at h
      exact hG _ _ _ _ _ _ _ h p e RM s m args below meth c cells slots Q C H locs ls hP hS hL hk hR
    · rw [if_neg (fun z => q ((pm_lt0 ha).mpr z))] at h
      exact hG _ _ _ _ _ _ _ h p e RM s m args below meth c cells slots Q C H locs ls hP hS hL hk hR
  · cases h
theorem k_ifge {off : Int} (hd : decode (pm_cc y) pc = .ok (.ifCond .ge off, 3)) (ht : (pc : Int) + off = (tg : Int)) (hn : pc + 3 = nx) : pm_Sd θ l env y pc (s_ifge tg nx) := by
  intro G hG d lo sk I res h
  subst hn
  unfold s_ifge at h
  split at h
  · rename_i a r
    intro p e RM s m args below meth c cells slots Q C H locs ls hP hS hL hk hR
    have ha : pm_r32 a := hk (.inl a) List.mem_cons_self
    have hk : ∀ u ∈ r, pm_ok u := fun u hu => hk u (List.mem_cons_of_mem _ hu)
    refine lv_if_ge C.1 C.2.1 hd ht (fun q => ?_) (fun q => ?_)
    · have z : ¬ a < 0 := fun z => by first | exact absurd ((pm_lt0 ha).mpr z) (Int32.not_lt.mpr q) | exact absurd ((pm_lt0 ha).mpr z) q
      rw [if_neg z] at h
      exact hG _ _ _ _ _ _ _ h p e RM s m args below meth c cells slots Q C H locs ls hP hS hL hk hR
    · have z : a < 0 := by first | exact (pm_lt0 ha).mp (Int32.not_le.mp q) | exact (pm_lt0 ha).mp (Decidable.not_not.mp q) | exact (pm_lt0 ha).mp q
      rw [if_pos z] at h
      exact hG _ _ _ _ _ _ _ h p e RM s m args below meth c cells slots Q C H locs ls hP hS hL hk hR
  · cases h
theorem k_ifgt {off : Int} (hd : decode (pm_cc y) pc = .ok (.ifCond .gt off, 3)) (ht : (pc : Int) + off = (tg : Int)) (hn : pc + 3 = nx) : pm_Sd θ l env y pc (s_ifgt tg nx) := by
  intro G hG d lo sk I res h
  subst hn
  unfold s_ifgt at h
  split at h
  · rename_i a r
    intro p e RM s m args below meth c cells slots Q C H locs ls hP hS hL hk hR
    have ha : pm_r32 a := hk (.inl a) List.mem_cons_self
    have hk : ∀ u ∈ r, pm_ok u := fun u hu => hk u (List.mem_cons_of_mem _ hu)
    refine lv_if_gt C.1 C.2.1 hd ht (fun q => ?_) (fun q => ?_)
    · rw [if_pos ((pm_gt0 ha).mp q)] at h
      exact hG _ _ _ _ _ _ _ h p e RM s m args below meth c cells slots Q C H locs ls hP hS hL hk hR
    · rw [if_neg (fun z => q ((pm_gt0 ha).mpr z))] at h
      exact hG _ _ _ _ _ _ _ h p e RM s m args below meth c cells slots Q C H locs ls hP hS hL hk hR
  · cases h
theorem k_ifle {off : Int} (hd : decode (pm_cc y) pc = .ok (.ifCond .le off, 3)) (ht : (pc : Int) + off = (tg : Int)) (hn : pc + 3 = nx) : pm_Sd θ l env y pc (s_ifle tg nx) := by
  intro G hG d lo sk I res h
  subst hn
  unfold s_ifle at h
  split at h
  · rename_i a r
    intro p e RM s m args below meth c cells slots Q C H locs ls hP hS hL hk hR
    have ha : pm_r32 a := hk (.inl a) List.mem_cons_self
    have hk : ∀ u ∈ r, pm_ok u := fun u hu => hk u (List.mem_cons_of_mem _ hu)
    refine lv_if_le C.1 C.2.1 hd ht (fun q => ?_) (fun q => ?_)
    · have z : ¬ 0 < a := fun z => by first | exact absurd ((pm_gt0 ha).mpr z) (Int32.not_lt.mpr q) | exact absurd ((pm_gt0 ha).mpr z) q
      rw [if_neg z] at h
      exact hG _ _ _ _ _ _ _ h p e RM s m args below meth c cells slots Q C H locs ls hP hS hL hk hR
    · have z : 0 < a := by first | exact (pm_gt0 ha).mp (Int32.not_le.mp q) | exact (pm_gt0 ha).mp (Decidable.not_not.mp q) | exact (pm_gt0 ha).mp q
      rw [if_pos z] at h
      exact hG _ _ _ _ _ _ _ h p e RM s m args below meth c cells slots Q C H locs ls hP hS hL hk hR
  · cases h
theorem k_ceq {off : Int} (hd : decode (pm_cc y) pc = .ok (.if_icmp .eq off, 3)) (ht : (pc : Int) + off = (tg : Int)) (hn : pc + 3 = nx) : pm_Sd θ l env y pc (s_ceq tg nx) := by
  intro G hG d lo sk I res h
  subst hn
  unfold s_ceq at h
  split at h
  · rename_i b a r
    intro p e RM s m args below meth c cells slots Q C H locs ls hP hS hL hk hR
    have hb : pm_r32 b := hk (.inl b) List.mem_cons_self
    have ha : pm_r32 a := hk (.inl a) (List.mem_cons_of_mem _ List.mem_cons_self)
    have hk : ∀ u ∈ r, pm_ok u := fun u hu => hk u (List.mem_cons_of_mem _ (List.mem_cons_of_mem _ hu))
    refine lv_icmp_eq C.1 C.2.1 hd ht (fun q => ?_) (fun q => ?_)
    · rw [if_pos ((pm_eq ha hb).mp q)] at h
      exact hG _ _ _ _ _ _ _ h p e RM s m args below meth c cells slots Q C H locs ls hP hS hL hk hR
    · rw [if_neg (fun z => q ((pm_eq ha hb).mpr z))] at h
      exact hG _ _ _ _ _ _ _ h p e RM s m args below meth c cells slots Q C H locs ls hP hS hL hk hR
  · cases h
theorem k_cne {off : Int} (hd : decode (pm_cc y) pc = .ok (.if_icmp .ne off, 3)) (ht : (pc : Int) + off = (tg : Int)) (hn : pc + 3 = nx) : pm_Sd θ l env y pc (s_cne tg nx) := by
  intro G hG d lo sk I res h
  subst hn
  unfold s_cne at h
  split at h
  · rename_i b a r
    intro p e RM s m args below meth c cells slots Q C H locs ls hP hS hL hk hR
    have hb : pm_r32 b := hk (.inl b) List.mem_cons_self
    have ha : pm_r32 a := hk (.inl a) (List.mem_cons_of_mem _ List.mem_cons_self)
    have hk : ∀ u ∈ r, pm_ok u := fun u hu => hk u (List.mem_cons_of_mem _ (List.mem_cons_of_mem _ hu))
    refine lv_icmp_ne C.1 C.2.1 hd ht (fun q => ?_) (fun q => ?_)
    · have z : ¬ a = b := fun z => q ((pm_eq ha hb).mpr z)
      rw [if_neg z] at h
      exact hG _ _ _ _ _ _ _ h p e RM s m args below meth c cells slots Q C H locs ls hP hS hL hk hR
    · have z : a = b := by first | exact (pm_eq ha hb).mp q | exact (pm_eq ha hb).mp (Decidable.not_not.mp q)
      rw [if_pos z] at h
      exact hG _ _ _ _ _ _ _ h p e RM s m args below meth c cells slots Q C H locs ls hP hS hL hk hR
  · cases h
theorem k_clt {off : Int} (hd : decode (pm_cc y) pc = .ok (.if_icmp .lt off, 3)) (ht : (pc : Int) + off = (tg : Int)) (hn : pc + 3 = nx) : pm_Sd θ l env y pc (s_clt tg nx) := by
  intro G hG d lo sk I res h
  subst hn
  unfold s_clt at h
  split at h
  · rename_i b a r
    intro p e RM s m args below meth c cells slots Q C H locs ls hP hS hL hk hR
    have hb : pm_r32 b := hk (.inl b) List.mem_cons_self
    have ha : pm_r32 a := hk (.inl a) (List.mem_cons_of_mem _ List.mem_cons_self)
    have hk : ∀ u ∈ r, pm_ok u := fun u hu => hk u (List.mem_cons_of_mem _ (List.mem_cons_of_mem _ hu))
    refine lv_icmp_lt C.1 C.2.1 hd ht (fun q => ?_) (fun q => ?_)
    · rw [if_pos ((pm_lt ha hb).mp q)] at h
      exact hG _ _ _ _ _ _ _ h p e RM s m args below meth c cells slots Q C H locs ls hP hS hL hk hR
    · rw [if_neg (fun z => q ((pm_lt ha hb).mpr z))] at h
      exact hG _ _ _ _ _ _ _ h p e RM s m args below meth c cells slots Q C H locs ls hP hS hL hk hR
  · cases h
theorem k_cge {off : Int} (hd : decode (pm_cc y) pc = .ok (.if_icmp .ge off, 3)) (ht : (pc : Int) + off = (tg : Int)) (hn : pc + 3 = nx) : pm_Sd θ l env y pc (s_cge tg nx) := by
  intro G hG d lo sk I res h
  subst hn
  unfold s_cge at h
  split at h
  · rename_i b a r
    intro p e RM s m args below meth c cells slots Q C H locs ls hP hS hL hk hR
    have hb : pm_r32 b := hk (.inl b) List.mem_cons_self
    have ha : pm_r32 a := hk (.inl a) (List.mem_cons_of_mem _ List.mem_cons_self)
    have hk : ∀ u ∈ r, pm_ok u := fun u hu => hk u (List.mem_cons_of_mem _ (List.mem_cons_of_mem _ hu))
    refine lv_icmp_ge C.1 C.2.1 hd ht (fun q => ?_) (fun q => ?_)
    · have z : ¬ a < b := fun z => by first | exact absurd ((pm_lt ha hb).mpr z) (Int32.not_lt.mpr q) | exact absurd ((pm_lt ha hb).mpr z) q
      rw [if_neg z] at h
      exact hG _ _ _ _ _ _ _ h p e RM s m args below meth c cells slots Q C H locs ls hP hS hL hk hR
    · have z : a < b := by first | exact (pm_lt ha hb).mp (Int32.not_le.mp q) | exact (pm_lt ha hb).mp (Decidable.not_not.mp q) | exact (pm_lt ha hb).mp q
      rw [if_pos z] at h
      exact hG _ _ _ _ _ _ _ h p e RM s m args below meth c cells slots Q C H locs ls hP hS hL hk hR
  · cases h
theorem k_cgt {off : Int} (hd : decode (pm_cc y) pc = .ok (.if_icmp .gt off, 3)) (ht : (pc : Int) + off = (tg : Int)) (hn : pc + 3 = nx) : pm_Sd θ l env y pc (s_cgt tg nx) := by
  intro G hG d lo sk I res h
  subst hn
  unfold s_cgt at h
  split at h
  · rename_i b a r
    intro p e RM s m args below meth c cells slots Q C H locs ls hP hS hL hk hR
    have hb : pm_r32 b := hk (.inl b) List.mem_cons_self
    have ha : pm_r32 a := hk (.inl a) (List.mem_cons_of_mem _ List.mem_cons_self)
    have hk : ∀ u ∈ r, pm_ok u := fun u hu => hk u (List.mem_cons_of_mem _ (List.mem_cons_of_mem _ hu))
    refine lv_icmp_gt C.1 C.2.1 hd ht (fun q => ?_) (fun q => ?_)
    · rw [if_pos ((pm_lt hb ha).mp q)] at h
      exact hG _ _ _ _ _ _ _ h p e RM s m args below meth c cells slots Q C H locs ls hP hS hL hk hR
    · rw [if_neg (fun z => q ((pm_lt hb ha).mpr z))] at h
      exact hG _ _ _ _ _ _ _ h p e RM s m args below meth c cells slots Q C H locs ls hP hS hL hk hR
  · cases h
theorem k_cle {off : Int} (hd : decode (pm_cc y) pc = .ok (.if_icmp .le off, 3)) (ht : (pc : Int) + off = (tg : Int)) (hn : pc + 3 = nx) : pm_Sd θ l env y pc (s_cle tg nx) := by
  intro G hG d lo sk I res h
  subst hn
  unfold s_cle at h
  split at h
  · rename_i b a r
    intro p e RM s m args below meth c cells slots Q C H locs ls hP hS hL hk hR
    have hb : pm_r32 b := hk (.inl b) List.mem_cons_self
    have ha : pm_r32 a := hk (.inl a) (List.mem_cons_of_mem _ List.mem_cons_self)
    have hk : ∀ u ∈ r, pm_ok u := fun u hu => hk u (List.mem_cons_of_mem _ (List.mem_cons_of_mem _ hu))
    refine lv_icmp_le C.1 C.2.1 hd ht (fun q => ?_) (fun q => ?_)
    · have z : ¬ b < a := fun z => by first | exact absurd ((pm_lt hb ha).mpr z) (Int32.not_lt.mpr q) | exact absurd ((pm_lt hb ha).mpr z) q
      rw [if_neg z] at h
      exact hG _ _ _ _ _ _ _ h p e RM s m args below meth c cells slots Q C H locs ls hP hS hL hk hR
    · have z : b < a := by first | exact (pm_lt hb ha).mp (Int32.not_le.mp q) | exact (pm_lt hb ha).mp (Decidable.not_not.mp q) | exact (pm_lt hb ha).mp q
      rw [if_pos z] at h
      exact hG _ _ _ _ _ _ _ h p e RM s m args below meth c cells slots Q C H locs ls hP hS hL hk hR
  · cases h
theorem k_goto {off : Int} (hd : decode (pm_cc y) pc = .ok (.goto off, 3)) (ht : (pc : Int) + off = (tg : Int)) : pm_Sd θ l env y pc (s_goto tg) := by
  intro G hG d lo sk I res h
  intro p e RM s m args below meth c cells slots Q C H locs ls hP hS hL hk hR
  exact lv_goto C.1 C.2.1 hd ht (hG _ _ _ _ _ _ _ h p e RM s m args below meth c cells slots Q C H locs ls hP hS hL hk hR)
theorem pm_swt_spec {x : Int} {df : Nat} {K : Nat → pm_O} {res : Int × pm_I} : ∀ {ts : List (Int × Nat)}, pm_swt x df K ts = some res → (∃ t, (x, t) ∈ ts ∧ K t = some res) ∨ ((∀ q ∈ ts, x ≠ q.1) ∧ K df = some res)
  | [], h => Or.inr ⟨fun _ q => absurd q List.not_mem_nil, h⟩
  | (c, t) :: ts, h => by
    unfold pm_swt at h
    by_cases hc : x = c
    · rw [if_pos hc] at h
      subst hc
      exact Or.inl ⟨t, List.mem_cons_self, h⟩
    · rw [if_neg hc] at h
      rcases pm_swt_spec h with ⟨t', h1, h2⟩ | ⟨h1, h2⟩
      · exact Or.inl ⟨t', List.mem_cons_of_mem _ h1, h2⟩
      · exact Or.inr ⟨List.forall_mem_cons.mpr ⟨hc, h1⟩, h2⟩
theorem k_switch {df lo0 hi : Int} {offs : Array Int} {len : Nat} {ts : List (Int × Nat)} (hd : decode (pm_cc y) pc = .ok (.tableswitch df lo0 hi offs, len)) (ht : (pc : Int) + df = (tg : Int)) (h1 : ∀ q ∈ ts, ¬ q.1 < lo0 ∧ ¬ hi < q.1 ∧ (offs[(q.1 - lo0).toNat]?).map (fun o => (pc : Int) + o) = some (q.2 : Int)) (h2 : ∀ k < (hi - lo0 + 1).toNat, ∃ q ∈ ts, q.1 = lo0 + (k : Int)) : pm_Sd θ l env y pc (s_switch ts tg) := by
  intro G hG d lo sk I res h
  unfold s_switch at h
  split at h
  · rename_i x r
    intro p e RM s m args below meth c cells slots Q C H locs ls hP hS hL hk hR
    have hx : pm_r32 x := hk (.inl x) List.mem_cons_self
    have hk : ∀ u ∈ r, pm_ok u := fun u hu => hk u (List.mem_cons_of_mem _ hu)
    rcases pm_swt_spec h with ⟨t, g1, h⟩ | ⟨g1, h⟩
    · obtain ⟨a1, a2, a3⟩ := h1 _ g1
      obtain ⟨off, b1, b2⟩ := Option.map_eq_some_iff.mp a3
      have e0 := pm_toInt hx
      refine lv_tableIn C.1 C.2.1 hd (x := Int32.ofInt x) (off := off) (tgt := t) ?_ ?_ ?_ b2 (hG _ _ _ _ _ _ _ h p e RM s m args below meth c cells slots Q C H locs ls hP hS hL hk hR)
      · rw [e0]; exact a1
      · rw [e0]; exact a2
      · rw [e0]; exact b1
    · refine lv_tableOut C.1 C.2.1 hd (x := Int32.ofInt x) ?_ ht (hG _ _ _ _ _ _ _ h p e RM s m args below meth c cells slots Q C H locs ls hP hS hL hk hR)
      rw [pm_toInt hx]
      by_cases q1 : x < lo0
      · exact Or.inl q1
      · by_cases q2 : hi < x
        · exact Or.inr q2
        · obtain ⟨q, q3, q4⟩ := h2 (x - lo0).toNat (by omega)
          exact absurd (by omega) (g1 q q3)
  · cases h
theorem k_iret (hd : decode (pm_cc y) pc = .ok (.ireturn, 1)) (hy : pm_rty y = some .int) : pm_Sd θ l env y pc s_iret := by
  intro G hG d lo sk I res h
  unfold s_iret at h
  split at h
  · rename_i v
    cases h
    intro p e RM s m args below meth c cells slots Q C H locs ls hP hS hL hk hR
    have kk := hR pc ls H locs hP hS (by unfold pm_rok; rw [hy]; exact hk (.inl v) List.mem_cons_self) (by rw [hy]; exact hd)
    unfold pm_rv at kk
    rw [hy] at kk
    exact kk
  · cases h
theorem k_zret (hd : decode (pm_cc y) pc = .ok (.ireturn, 1)) (hy : pm_rty y = some .boolean) : pm_Sd θ l env y pc s_zret := by
  intro G hG d lo sk I res h
  unfold s_zret at h
  split at h
  · rename_i v
    split at h
    · rename_i hv
      cases h
      intro p e RM s m args below meth c cells slots Q C H locs ls hP hS hL hk hR
      have kk := hR pc ls H locs hP hS (by unfold pm_rok; rw [hy]; exact hv) (by rw [hy]; exact hd)
      unfold pm_rv at kk
      rw [hy] at kk
      exact kk
    · cases h
  · cases h
theorem k_lret (hd : decode (pm_cc y) pc = .ok (.lreturn, 1)) (hy : pm_rty y = some .long) : pm_Sd θ l env y pc s_lret := by
  intro G hG d lo sk I res h
  unfold s_lret at h
  split at h
  · rename_i v
    cases h
    intro p e RM s m args below meth c cells slots Q C H locs ls hP hS hL hk hR
    have kk := hR pc ls H locs hP hS (by unfold pm_rok; rw [hy]; exact hk (.inr (.inl v)) List.mem_cons_self) (by rw [hy]; exact hd)
    unfold pm_rv at kk
    rw [hy] at kk
    exact kk
  · cases h
theorem k_vret (hd : decode (pm_cc y) pc = .ok (.return_, 1)) (hy : pm_rty y = none) : pm_Sd θ l env y pc s_vret := by
  intro G hG d lo sk I res h
  unfold s_vret at h
  split at h
  · cases h
    intro p e RM s m args below meth c cells slots Q C H locs ls hP hS hL hk hR
    have kk := hR pc ls H locs hP hS (by unfold pm_rok; rw [hy]; show pm_r32 0; decide) (by rw [hy]; exact hd)
    unfold pm_rv at kk
    rw [hy] at kk
    exact kk
  · cases h
end ROWS
