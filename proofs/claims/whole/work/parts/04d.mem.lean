/-! THE HEAP'S INSTRUCTIONS -/
def pm_FL (own : String) (idx ci k : Nat) : Prop := ∃ (C : String) (T : u_T) (N : Nat), vwCl[ci]? = some (C, T, N) ∧ k < N ∧ (∀ w ∈ u_ws C T N, w ∈ pm_TB) ∧ Cond.fieldLink own idx (T k).1 (T k).2.1 (T k).2.2.1 ∈ pm_TB
def pm_FP (own : String) (idx ci k : Nat) (ty : FieldType) : Prop := ∃ (C : String) (T : u_T) (N : Nat) (ty0 : Nat → FieldType), vwCl[ci]? = some (C, T, N) ∧ k < N ∧ (∀ w ∈ u_ws C T N, w ∈ pm_TB) ∧ Cond.fieldLink own idx (T k).1 (T k).2.1 (T k).2.2.1 ∈ pm_TB ∧
  (∀ k, k < N → parseFieldDescriptor (T k).2.2.1 = some (ty0 k)) ∧ (∀ a, a < N → ∀ b, b < N → a ≠ b → (T a).2.1 ≠ (T b).2.1) ∧ (T k).2.2.2 = false ∧ parseFieldDescriptor (T k).2.2.1 = some ty
theorem pm_cast {i : Int} (h : 0 ≤ i) (hr : pm_r32 i) : (((Int32.ofInt i).toNatClampNeg : Nat) : Int) = i := by
  rw [pm_clamp hr]
  omega
section MEM
variable {θ : pm_TH} {l : Launch} {env : pm_E} {y pc nx tg : Nat}
theorem pm_obj {I : pm_I} {r ci : Nat} (hE : pm_EW θ env) (h : Nat.beq (env.1 r) ci = true) (hc : ci < 8) : r ≠ 0 ∧ (3 ≤ r ∧ r < pm_nn θ + 3) ∧ (pm_ws θ env I)[r - 3]? = some (pm_as θ r, .inr (ci, pm_fl θ env I r)) := by
  have e := Nat.eq_of_beq_eq_true h
  have b := hE.1 r (by omega)
  refine ⟨by omega, b, ?_⟩
  rw [pm_ws_at θ env I b]
  unfold pm_cell
  rw [if_neg (by omega), if_neg (by omega), if_neg (by omega), if_neg (by omega), if_neg (by omega), e]
theorem pm_arI {I : pm_I} {r : Nat} (hE : pm_EW θ env) (h : Nat.beq (env.1 r) 8 = true) : r ≠ 0 ∧ (3 ≤ r ∧ r < pm_nn θ + 3) ∧ (pm_ws θ env I)[r - 3]? = some (pm_as θ r, .inl (θ.2.1.1, (env.2.1 r).toNat, .inl (fun j => Int32.ofInt (I r j)))) := by
  have e := Nat.eq_of_beq_eq_true h
  have b := hE.1 r (by omega)
  refine ⟨by omega, b, ?_⟩
  rw [pm_ws_at θ env I b]
  unfold pm_cell
  rw [if_pos e]
theorem pm_arZ {I : pm_I} {r : Nat} (hE : pm_EW θ env) (h : Nat.beq (env.1 r) 9 = true) : r ≠ 0 ∧ (3 ≤ r ∧ r < pm_nn θ + 3) ∧ (pm_ws θ env I)[r - 3]? = some (pm_as θ r, .inl (θ.2.1.2.1, (env.2.1 r).toNat, .inl (fun j => Int32.ofInt (I r j)))) := by
  have e := Nat.eq_of_beq_eq_true h
  have b := hE.1 r (by omega)
  refine ⟨by omega, b, ?_⟩
  rw [pm_ws_at θ env I b]
  unfold pm_cell
  rw [if_neg (by omega), if_pos e]
theorem pm_flI {I : pm_I} {r ci k : Nat} (h : Nat.beq (env.1 r) ci = true) (hk : (pm_rs ci)[k]? = some false) : (pm_fl θ env I r)[k]? = some (.int (Int32.ofInt (I r k))) := by
  have e := Nat.eq_of_beq_eq_true h
  unfold pm_fl
  rw [List.getElem?_mapIdx, e, hk]
  rfl
theorem pm_flR {I : pm_I} {r ci k : Nat} (h : Nat.beq (env.1 r) ci = true) (hk : (pm_rs ci)[k]? = some true) : (pm_fl θ env I r)[k]? = some (pm_tv θ (.inr (.inr (env.2.2.1 r k)))) := by
  have e := Nat.eq_of_beq_eq_true h
  unfold pm_fl
  rw [List.getElem?_mapIdx, e, hk]
  rfl
theorem pm_fl_up {I : pm_I} {r ci k : Nat} {v : Int} (h : Nat.beq (env.1 r) ci = true) (hk : (pm_rs ci)[k]? = some false) : pm_fl θ env (pm_up I r k v) r = (pm_fl θ env I r).set k (.int (Int32.ofInt v)) := by
  have e := Nat.eq_of_beq_eq_true h
  apply List.ext_getElem?
  intro j
  have hl : k < (pm_fl θ env I r).length := by
    unfold pm_fl
    rw [List.length_mapIdx, e]
    exact (List.getElem?_eq_some_iff.mp hk).1
  by_cases hj : j = k
  · subst hj
    rw [List.getElem?_set_self hl, pm_flI (ci := ci) h hk]
    simp [pm_up]
  · rw [List.getElem?_set_ne (fun q => hj q.symm)]
    unfold pm_fl
    rw [List.getElem?_mapIdx, List.getElem?_mapIdx]
    congr 1
    funext b
    have : ¬ ((j : Int) = (k : Int)) := by omega
    simp [pm_up, this]
theorem pm_up_off {I : pm_I} {r : Nat} {k v : Int} : ∀ q, q ≠ r → ∀ j, pm_up I r k v q j = I q j := fun q hq j => by simp [pm_up, hq]
theorem pm_up_r {I : pm_I} {r : Nat} {k v : Int} (h : ∀ r j, pm_r32 (I r j)) (hv : pm_r32 v) : ∀ q j, pm_r32 (pm_up I r k v q j) := fun q j => by
  unfold pm_up
  split
  · exact hv
  · exact h q j
theorem pm_cell_obj {I : pm_I} {r ci : Nat} (h : Nat.beq (env.1 r) ci = true) (hc : ci < 8) : pm_cell θ env I r = .inr (ci, pm_fl θ env I r) := by
  have e := Nat.eq_of_beq_eq_true h
  unfold pm_cell
  rw [if_neg (by omega), if_neg (by omega), if_neg (by omega), if_neg (by omega), if_neg (by omega), e]
theorem pm_upd {I : pm_I} {r : Nat} {i v : Int} (h0 : 0 ≤ i) (hr : pm_r32 i) : (fun j : Nat => Int32.ofInt (pm_up I r i v r j)) = upd (fun j => Int32.ofInt (I r j)) (Int32.ofInt i).toNatClampNeg (Int32.ofInt v) := by
  funext j
  have e := pm_cast h0 hr
  unfold upd pm_up
  by_cases hj : j = (Int32.ofInt i).toNatClampNeg
  · rw [if_pos ⟨rfl, by rw [hj]; exact e⟩, if_pos hj]
  · rw [if_neg (fun q => hj (by omega)), if_neg hj]
theorem k_getI {idx ci k : Nat} {k' : Int} (hE : pm_EW θ env) (hd : decode (pm_cc y) pc = .ok (.getfield idx, 3)) (hn : pc + 3 = nx) (hF : pm_FL (pm_nm y).cls idx ci k) (hc : ci < 8) (hs : (pm_rs ci)[k]? = some false) (hk' : (k : Int) = k') : pm_Sd θ l env y pc (s_getI ci k' nx) := by
  intro G hG d lo sk I res h
  subst hn; subst hk'
  unfold s_getI at h
  split at h
  · rename_i r t
    cases hb : Nat.beq (env.1 r) ci with
    | false => rw [hb] at h; cases h
    | true =>
      rw [hb] at h
      intro p e RM s m args below meth c cells slots Q C H locs ls hP hS hL hk hR
      obtain ⟨Cn, T, N, f1, f2, f3, f4⟩ := hF
      obtain ⟨r0, -, he⟩ := pm_obj (I := I) hE hb hc
      rw [List.map_cons, pm_tv_ref θ r0]
      exact va_get (D := pm_D θ) (cl := vwCl) (ci := ci) (T := T) (C := Cn) (N := N) C.1 C.2.1 C.2.2.2.1 f3 C.2.2.2.2.1 C.2.2.2.2.2.1 hP.1 (r - 3) he f1 k f2 (C.2.2.2.1 _ f4) (fun _ h9 => h9) (pm_flI hb hs) hd (hG _ _ _ _ _ _ _ h p e RM s m args below meth c cells slots Q C H locs ls hP hS hL (pm_okc (v := .inl (I r k)) (hP.2.2 r k) (fun u hu => hk u (List.mem_cons_of_mem _ hu))) hR)
  · cases h
theorem k_getR {idx ci k : Nat} (hE : pm_EW θ env) (hd : decode (pm_cc y) pc = .ok (.getfield idx, 3)) (hn : pc + 3 = nx) (hF : pm_FL (pm_nm y).cls idx ci k) (hc : ci < 8) (hs : (pm_rs ci)[k]? = some true) : pm_Sd θ l env y pc (s_getR ci k nx) := by
  intro G hG d lo sk I res h
  subst hn
  unfold s_getR at h
  split at h
  · rename_i r t
    cases hb : Nat.beq (env.1 r) ci with
    | false => rw [hb] at h; cases h
    | true =>
      rw [hb] at h
      intro p e RM s m args below meth c cells slots Q C H locs ls hP hS hL hk hR
      obtain ⟨Cn, T, N, f1, f2, f3, f4⟩ := hF
      obtain ⟨r0, -, he⟩ := pm_obj (I := I) hE hb hc
      rw [List.map_cons, pm_tv_ref θ r0]
      exact va_get (D := pm_D θ) (cl := vwCl) (ci := ci) (T := T) (C := Cn) (N := N) C.1 C.2.1 C.2.2.2.1 f3 C.2.2.2.2.1 C.2.2.2.2.2.1 hP.1 (r - 3) he f1 k f2 (C.2.2.2.1 _ f4) (fun _ h9 => h9) (pm_flR hb hs) hd (hG _ _ _ _ _ _ _ h p e RM s m args below meth c cells slots Q C H locs ls hP hS hL (pm_okc (v := .inr (.inr (env.2.2.1 r k))) trivial (fun u hu => hk u (List.mem_cons_of_mem _ hu))) hR)
  · cases h
theorem k_putI {idx ci k : Nat} {k' : Int} (hE : pm_EW θ env) (hd : decode (pm_cc y) pc = .ok (.putfield idx, 3)) (hn : pc + 3 = nx) (hF : pm_FP (pm_nm y).cls idx ci k .int) (hc : ci < 8) (hs : (pm_rs ci)[k]? = some false) (hk' : (k : Int) = k') : pm_Sd θ l env y pc (s_putI ci k' nx) := by
  intro G hG d lo sk I res h
  subst hn; subst hk'
  unfold s_putI at h
  split at h
  · rename_i v r t
    cases hb : Nat.beq (env.1 r) ci with
    | false => rw [hb] at h; cases h
    | true =>
      rw [hb] at h
      dsimp only [cond_true] at h
      intro p e RM s m args below meth c cells slots Q C H locs ls hP hS hL hk hR
      obtain ⟨Cn, T, N, ty0, f1, f2, f3, f4, f5, f6, f7, f8⟩ := hF
      obtain ⟨r0, rb, he⟩ := pm_obj (I := I) hE hb hc
      have hv : pm_r32 v := hk (.inl v) List.mem_cons_self
      rw [List.map_cons, List.map_cons, pm_tv_ref θ r0]
      refine va_put (D := pm_D θ) (cl := vwCl) (ci := ci) (v := .int (Int32.ofInt v)) (ty := .int) (T := T) (C := Cn) (N := N) C.1 C.2.1 C.2.2.2.1 f3 ty0 f5 f6 C.2.2.2.2.1 C.2.2.2.2.2.1 hP.1 hP.2.1 hS (r - 3) he f1 k f2 (C.2.2.2.1 _ f4) (fun _ h9 => h9) f7 f8 rfl rfl ?_ hd (fun H1 locs1 g1 g2 g3 => ?_)
      · exact (List.getElem?_eq_some_iff.mp (pm_flI (θ := θ) (I := I) hb hs)).1
      · rw [pm_ws_set θ env (I' := pm_up I r k v) rb pm_up_off (by rw [pm_cell_obj hb hc, pm_fl_up hb hs])] at g1 g2
        exact hG _ _ _ _ _ _ _ h p e RM s m args below meth c cells slots Q C H1 locs1 ls ⟨g1, g2, pm_up_r hP.2.2 hv⟩ g3 hL (fun u hu => hk u (List.mem_cons_of_mem _ (List.mem_cons_of_mem _ hu))) hR
  · cases h
theorem k_putZ {idx ci k : Nat} {k' : Int} (hE : pm_EW θ env) (hd : decode (pm_cc y) pc = .ok (.putfield idx, 3)) (hn : pc + 3 = nx) (hF : pm_FP (pm_nm y).cls idx ci k .boolean) (hc : ci < 8) (hs : (pm_rs ci)[k]? = some false) (hk' : (k : Int) = k') : pm_Sd θ l env y pc (s_putZ ci k' nx) := by
  intro G hG d lo sk I res h
  subst hn; subst hk'
  unfold s_putZ at h
  split at h
  · rename_i v r t
    cases hb : Nat.beq (env.1 r) ci with
    | false => rw [hb] at h; cases h
    | true =>
      rw [hb] at h
      dsimp only [cond_true] at h
      split at h
      · rename_i hz
        intro p e RM s m args below meth c cells slots Q C H locs ls hP hS hL hk hR
        obtain ⟨Cn, T, N, ty0, f1, f2, f3, f4, f5, f6, f7, f8⟩ := hF
        obtain ⟨r0, rb, he⟩ := pm_obj (I := I) hE hb hc
        have hv : pm_r32 v := hk (.inl v) List.mem_cons_self
        rw [List.map_cons, List.map_cons, pm_tv_ref θ r0]
        refine va_put (D := pm_D θ) (cl := vwCl) (ci := ci) (v := .int (Int32.ofInt v)) (ty := .boolean) (T := T) (C := Cn) (N := N) C.1 C.2.1 C.2.2.2.1 f3 ty0 f5 f6 C.2.2.2.2.1 C.2.2.2.2.2.1 hP.1 hP.2.1 hS (r - 3) he f1 k f2 (C.2.2.2.1 _ f4) (fun _ h9 => h9) f7 f8 (by rcases hz with q | q <;> subst q <;> rfl) (by rcases hz with q | q <;> subst q <;> rfl) ?_ hd (fun H1 locs1 g1 g2 g3 => ?_)
        · exact (List.getElem?_eq_some_iff.mp (pm_flI (θ := θ) (I := I) hb hs)).1
        · rw [pm_ws_set θ env (I' := pm_up I r k v) rb pm_up_off (by rw [pm_cell_obj hb hc, pm_fl_up hb hs])] at g1 g2
          exact hG _ _ _ _ _ _ _ h p e RM s m args below meth c cells slots Q C H1 locs1 ls ⟨g1, g2, pm_up_r hP.2.2 hv⟩ g3 hL (fun u hu => hk u (List.mem_cons_of_mem _ (List.mem_cons_of_mem _ hu))) hR
      · cases h
  · cases h
theorem k_iald (hE : pm_EW θ env) (hd : decode (pm_cc y) pc = .ok (.iaload, 1)) (hn : pc + 1 = nx) : pm_Sd θ l env y pc (s_iald nx) := by
  intro G hG d lo sk I res h
  subst hn
  unfold s_iald at h
  split at h
  · rename_i i r t
    cases hb : Nat.beq (env.1 r) 8 with
    | true =>
      rw [hb] at h
      dsimp only [cond_true] at h
      split at h
      · rename_i hi
        intro p e RM s m args below meth c cells slots Q C H locs ls hP hS hL hk hR
        have hr : pm_r32 i := hk (.inl i) List.mem_cons_self
        obtain ⟨r0, rb, he⟩ := pm_arI (I := I) hE hb
        rw [List.map_cons, List.map_cons, pm_tv_ref θ r0]
        refine va_iald (D := pm_D θ) (cl := vwCl) (tys := pm_tys θ) C.1 C.2.1 C.2.2.2.2.2.1 hP.1 (r - 3) 0 he rfl (pm_in hr hi) hd ?_
        rw [pm_cast hi.1 hr]
        exact hG _ _ _ _ _ _ _ h p e RM s m args below meth c cells slots Q C H locs ls hP hS hL (pm_okc (v := .inl (I r i)) (hP.2.2 r i) (fun u hu => hk u (List.mem_cons_of_mem _ (List.mem_cons_of_mem _ hu)))) hR
      · cases h
    | false =>
      rw [hb] at h
      dsimp only [cond_false] at h
      cases hb2 : Nat.beq (env.1 r) 50 with
      | false => rw [hb2] at h; cases h
      | true =>
        rw [hb2] at h
        dsimp only [cond_true] at h
        split at h
        · rename_i hi
          intro p e RM s m args below meth c cells slots Q C H locs ls hP hS hL hk hR
          have hr : pm_r32 i := hk (.inl i) List.mem_cons_self
          have e5 := Nat.eq_of_beq_eq_true hb2
          have r0 := hE.2.2.1 r e5
          obtain ⟨x1, x2⟩ := C.2.2.2.2.2.2.2.2.2.1 r e5
          rw [List.map_cons, List.map_cons, pm_tv_ref θ r0]
          refine va_sld C.1 C.2.1 x2 (Nat.lt_of_lt_of_le x1 C.2.2.2.2.2.2.2.2.1) (fun q => absurd x1 (Nat.not_lt.mpr q)) hS (pm_in hr hi) hd ?_
          rw [pm_cast hi.1 hr]
          exact hG _ _ _ _ _ _ _ h p e RM s m args below meth c cells slots Q C H locs ls hP hS hL (pm_okc (v := .inl (env.2.2.2 r i)) (hE.2.2.2 r i e5) (fun u hu => hk u (List.mem_cons_of_mem _ (List.mem_cons_of_mem _ hu)))) hR
        · cases h
  · cases h
theorem k_zald (hE : pm_EW θ env) (hd : decode (pm_cc y) pc = .ok (.baload, 1)) (hn : pc + 1 = nx) : pm_Sd θ l env y pc (s_zald nx) := by
  intro G hG d lo sk I res h
  subst hn
  unfold s_zald at h
  split at h
  · rename_i i r t
    cases hb : Nat.beq (env.1 r) 9 with
    | false => rw [hb] at h; cases h
    | true =>
      rw [hb] at h
      dsimp only [cond_true] at h
      split at h
      · rename_i hi
        intro p e RM s m args below meth c cells slots Q C H locs ls hP hS hL hk hR
        have hr : pm_r32 i := hk (.inl i) List.mem_cons_self
        obtain ⟨r0, rb, he⟩ := pm_arZ (I := I) hE hb
        rw [List.map_cons, List.map_cons, pm_tv_ref θ r0]
        refine va_zald (D := pm_D θ) (cl := vwCl) (tys := pm_tys θ) C.1 C.2.1 C.2.2.2.2.2.1 hP.1 (r - 3) 1 he rfl (pm_in hr hi) hd ?_
        rw [pm_cast hi.1 hr]
        exact hG _ _ _ _ _ _ _ h p e RM s m args below meth c cells slots Q C H locs ls hP hS hL (pm_okc (v := .inl (I r i)) (hP.2.2 r i) (fun u hu => hk u (List.mem_cons_of_mem _ (List.mem_cons_of_mem _ hu)))) hR
      · cases h
  · cases h
theorem pm_aldT {p : Program} {e : Env} {R : Room} {s : State} {m : MethodId} {args : Array Value} {below : List Frame} {meth : Method} {c : Code} {H : Heap} {locs : List Loc} {cells slots : Nat} {Q : State → Prop} {cc : ByteArray} {pc : Nat} {ls : Array Slot} {rest : List Value} {D : va_G} {cl : List vw_C} {a : Nat} {tys : List (ClassId × FieldType)} {ws : va_W} (hexec : p.tables.exec = Jvm.exec) (hb : c.code = cc) (hK : va_K D cl tys s) (hP : va_P D cl ws H) (q0 t0 : Nat) {cA : ClassId} {ty : FieldType} (hty : ty.isReference = true) {n : Nat} {f : Nat → Option Nat} (ha : ws[q0]? = some (a, .inl (cA, n, .inr (.inr (.inr (.inr f)))))) (ht : tys[t0]? = some (cA, ty)) {i : Int32} (hin : vp_in i n) (hdg : decode cc pc = .ok (.aaload, 1))
    (kk : W p l e R s m args below meth c H locs cells slots Q (F0 m (pc + 1) ls (va_rf (f i.toNatClampNeg) :: rest))) : W p l e R s m args below meth c H locs cells slots Q (F0 m pc ls (.int i :: .ref a :: rest)) := by
  have hlt : i.toNatClampNeg < n := Nat.not_le.mp fun q => hin (Or.inr q)
  exact W.aald (v := va_rf (f i.toNatClampNeg)) (ty := ty) hexec hb (hP q0 _ ha) ((hK.2 t0 _ ht).1 n (fun j => va_rf (f j))) hty (fun q => by cases q) (by show ¬ (i < 0 ∨ (arrV _ _ _).slots.size ≤ _); rw [arrV_size]; exact hin) (by show (arrV _ _ _).slots[_]? = _; rw [arrV_read _ _ hlt]) rfl rfl hdg kk
theorem k_aald (hE : pm_EW θ env) (hd : decode (pm_cc y) pc = .ok (.aaload, 1)) (hn : pc + 1 = nx) : pm_Sd θ l env y pc (s_aald nx) := by
  intro G hG d lo sk I res h
  subst hn
  unfold s_aald at h
  split at h
  · rename_i i r t
    cases hb : (Nat.ble 10 (env.1 r) && Nat.ble (env.1 r) 12) with
    | false => rw [hb] at h; cases h
    | true =>
      rw [hb] at h
      dsimp only [cond_true] at h
      split at h
      · rename_i hi
        intro p e RM s m args below meth c cells slots Q C H locs ls hP hS hL hk hR
        have hr : pm_r32 i := hk (.inl i) List.mem_cons_self
        rw [Bool.and_eq_true] at hb
        have b1 := Nat.le_of_ble_eq_true hb.1
        have b2 := Nat.le_of_ble_eq_true hb.2
        have rb := hE.1 r (by omega)
        have he := pm_ws_at θ env I rb
        have kk := hG _ _ _ _ _ _ _ h p e RM s m args below meth c cells slots Q C H locs ls hP hS hL (pm_okc (v := .inr (.inr (env.2.2.1 r i.toNat))) trivial (fun u hu => hk u (List.mem_cons_of_mem _ (List.mem_cons_of_mem _ hu)))) hR
        rw [List.map_cons, List.map_cons, pm_tv_ref θ (show r ≠ 0 by omega)]
        have q3 : env.1 r = 10 ∨ env.1 r = 11 ∨ env.1 r = 12 := by omega
        unfold pm_cell at he
        rw [← pm_clamp hr] at kk
        rcases q3 with q3 | q3 | q3
        · rw [if_neg (by omega), if_neg (by omega), if_pos q3] at he
          exact pm_aldT (D := pm_D θ) (cl := vwCl) (tys := pm_tys θ) C.1 C.2.1 C.2.2.2.2.2.1 hP.1 (r - 3) 2 rfl he rfl (pm_in hr hi) hd kk
        · rw [if_neg (by omega), if_neg (by omega), if_neg (by omega), if_pos q3] at he
          exact pm_aldT (D := pm_D θ) (cl := vwCl) (tys := pm_tys θ) C.1 C.2.1 C.2.2.2.2.2.1 hP.1 (r - 3) 3 rfl he rfl (pm_in hr hi) hd kk
        · rw [if_neg (by omega), if_neg (by omega), if_neg (by omega), if_neg (by omega), if_pos q3] at he
          exact pm_aldT (D := pm_D θ) (cl := vwCl) (tys := pm_tys θ) C.1 C.2.1 C.2.2.2.2.2.1 hP.1 (r - 3) 4 rfl he rfl (pm_in hr hi) hd kk
      · cases h
  · cases h
theorem k_iast (hE : pm_EW θ env) (hd : decode (pm_cc y) pc = .ok (.iastore, 1)) (hn : pc + 1 = nx) : pm_Sd θ l env y pc (s_iast nx) := by
  intro G hG d lo sk I res h
  subst hn
  unfold s_iast at h
  split at h
  · rename_i v i r t
    cases hb : Nat.beq (env.1 r) 8 with
    | false => rw [hb] at h; cases h
    | true =>
      rw [hb] at h
      dsimp only [cond_true] at h
      split at h
      · rename_i hi
        intro p e RM s m args below meth c cells slots Q C H locs ls hP hS hL hk hR
        have hr : pm_r32 i := hk (.inl i) (List.mem_cons_of_mem _ List.mem_cons_self)
        have hv : pm_r32 v := hk (.inl v) List.mem_cons_self
        obtain ⟨r0, rb, he⟩ := pm_arI (I := I) hE hb
        rw [List.map_cons, List.map_cons, List.map_cons, pm_tv_ref θ r0]
        refine va_iast (D := pm_D θ) (cl := vwCl) (tys := pm_tys θ) C.1 C.2.1 C.2.2.2.2.2.1 hP.1 hP.2.1 hS (r - 3) 0 he rfl (pm_in hr hi) hd (fun H1 locs1 g1 g2 g3 => ?_)
        rw [pm_ws_set θ env (I' := pm_up I r i v) rb pm_up_off (by unfold pm_cell; rw [if_pos (Nat.eq_of_beq_eq_true hb), pm_upd hi.1 hr])] at g1 g2
        exact hG _ _ _ _ _ _ _ h p e RM s m args below meth c cells slots Q C H1 locs1 ls ⟨g1, g2, pm_up_r hP.2.2 hv⟩ g3 hL (fun u hu => hk u (List.mem_cons_of_mem _ (List.mem_cons_of_mem _ (List.mem_cons_of_mem _ hu)))) hR
      · cases h
  · cases h
theorem k_zast (hE : pm_EW θ env) (hd : decode (pm_cc y) pc = .ok (.bastore, 1)) (hn : pc + 1 = nx) : pm_Sd θ l env y pc (s_zast nx) := by
  intro G hG d lo sk I res h
  subst hn
  unfold s_zast at h
  split at h
  · rename_i v i r t
    cases hb : Nat.beq (env.1 r) 9 with
    | false => rw [hb] at h; cases h
    | true =>
      rw [hb] at h
      dsimp only [cond_true] at h
      split at h
      · rename_i hi
        split at h
        · rename_i hz
          intro p e RM s m args below meth c cells slots Q C H locs ls hP hS hL hk hR
          have hr : pm_r32 i := hk (.inl i) (List.mem_cons_of_mem _ List.mem_cons_self)
          have hv : pm_r32 v := hk (.inl v) List.mem_cons_self
          obtain ⟨r0, rb, he⟩ := pm_arZ (I := I) hE hb
          rw [List.map_cons, List.map_cons, List.map_cons, pm_tv_ref θ r0]
          refine va_zast (D := pm_D θ) (cl := vwCl) (tys := pm_tys θ) (x := Int32.ofInt v) C.1 C.2.1 C.2.2.2.2.2.1 hP.1 hP.2.1 hS (r - 3) 1 he rfl (pm_in hr hi) hd (fun H1 locs1 g1 g2 g3 => ?_)
          have en : vp_nar .boolean (Int32.ofInt v) = Int32.ofInt v := by rcases hz with q | q <;> subst q <;> rfl
          rw [en] at g1 g2
          rw [pm_ws_set θ env (I' := pm_up I r i v) rb pm_up_off (by unfold pm_cell; rw [if_neg (by have := Nat.eq_of_beq_eq_true hb; omega), if_pos (Nat.eq_of_beq_eq_true hb), pm_upd hi.1 hr])] at g1 g2
          exact hG _ _ _ _ _ _ _ h p e RM s m args below meth c cells slots Q C H1 locs1 ls ⟨g1, g2, pm_up_r hP.2.2 hv⟩ g3 hL (fun u hu => hk u (List.mem_cons_of_mem _ (List.mem_cons_of_mem _ (List.mem_cons_of_mem _ hu)))) hR
        · cases h
      · cases h
  · cases h
theorem pm_ofNat {n : Int} (h : 0 ≤ n) : Int32.ofNat n.toNat = Int32.ofInt n := by
  have e : Int32.ofInt ((n.toNat : Nat) : Int) = Int32.ofNat n.toNat := by first | exact Int32.ofInt_eq_ofNat | exact (Int32.ofInt_eq_ofNat _) | exact?
  rw [← e]
  congr 1
  omega
theorem k_alen (hE : pm_EW θ env) (hd : decode (pm_cc y) pc = .ok (.arraylength, 1)) (hn : pc + 1 = nx) : pm_Sd θ l env y pc (s_alen nx) := by
  intro G hG d lo sk I res h
  subst hn
  unfold s_alen at h
  split at h
  · rename_i r t
    cases hb : Nat.beq (env.1 r) 8 with
    | true =>
      rw [hb] at h
      intro p e RM s m args below meth c cells slots Q C H locs ls hP hS hL hk hR
      obtain ⟨r0, rb, he⟩ := pm_arI (I := I) hE hb
      rw [List.map_cons, pm_tv_ref θ r0]
      exact va_alen (D := pm_D θ) (cl := vwCl) (tys := pm_tys θ) C.1 C.2.1 C.2.2.2.2.2.1 hP.1 (r - 3) 0 he rfl (pm_ofNat (hE.2.1 r).2) hd (hG _ _ _ _ _ _ _ h p e RM s m args below meth c cells slots Q C H locs ls hP hS hL (pm_okc (v := .inl (env.2.1 r)) (hE.2.1 r).1 (fun u hu => hk u (List.mem_cons_of_mem _ hu))) hR)
    | false =>
      rw [hb] at h
      cases hb2 : Nat.beq (env.1 r) 50 with
      | false => rw [hb2] at h; cases h
      | true =>
        rw [hb2] at h
        intro p e RM s m args below meth c cells slots Q C H locs ls hP hS hL hk hR
        have e5 := Nat.eq_of_beq_eq_true hb2
        have r0 := hE.2.2.1 r e5
        obtain ⟨x1, x2⟩ := C.2.2.2.2.2.2.2.2.2.1 r e5
        rw [List.map_cons, pm_tv_ref θ r0]
        refine va_slen C.1 C.2.1 x2 (Nat.lt_of_lt_of_le x1 C.2.2.2.2.2.2.2.2.1) (fun q => absurd x1 (Nat.not_lt.mpr q)) hS hd ?_
        rw [pm_ofNat (hE.2.1 r).2]
        exact hG _ _ _ _ _ _ _ h p e RM s m args below meth c cells slots Q C H locs ls hP hS hL (pm_okc (v := .inl (env.2.1 r)) (hE.2.1 r).1 (fun u hu => hk u (List.mem_cons_of_mem _ hu))) hR
  · cases h
theorem k_units {idx : Nat} (hd : decode (pm_cc y) pc = .ok (.getstatic idx, 3)) (hn : pc + 3 = nx) (hw : Cond.fieldLink (pm_nm y).cls idx RX2 "UNITS" "[I" ∈ pm_TB) : pm_Sd θ l env y pc (s_units nx) := by
  intro G hG d lo sk I res h
  subst hn
  intro p e RM s m args below meth c cells slots Q C H locs ls hP hS hL hk hR
  refine va_gets C.1 C.2.1 C.2.2.2.2.2.2.2.2.2.2.1 hS C.2.2.2.2.1 (C.2.2.2.1 _ hw) (fun _ h9 => h9) hd ?_
  exact hG _ _ _ _ _ _ _ h p e RM s m args below meth c cells slots Q C H locs ls hP hS hL (pm_okc (v := .inr (.inr 1)) trivial hk) hR
end MEM
